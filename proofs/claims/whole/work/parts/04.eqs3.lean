set_option maxRecDepth 100000 in
theorem eX12_thrown_0 (C : sC) (w : sW) (a0 : Int) : sg C mX12_thrown 2000 0 [some (rV a0)] [] w =
  if kd w a0 = 10 then
  some (.inr (some (iV (gv w a0 0)), w)) else none := by
  rfl
set_option maxRecDepth 100000 in
theorem eX12_refuse_0 (C : sC) (w : sW) (a0 : Int) : sg C mX12_refuse 2000 0 [some (rV a0)] [] w =
  if kd w a0 = 10 then
  wl (sv w a0 0 1) (fun w1 =>
  some (.inr (some (iV 0), w1))) else none := by
  rfl
set_option maxRecDepth 100000 in
theorem eX12_come_0 (C : sC) (w : sW) (a0 a1 : Int) : sg C mX12_come 2000 0 [some (rV a0), some (iV a1), none] [] w =
  some (.inl (3, [some (rV a0), some (iV a1), some (iV 24)], [], w)) := by
  rfl
set_option maxRecDepth 100000 in
theorem eX12_come_3 (C : sC) (w : sW) (a0 a1 a2 : Int) : sg C mX12_come 2000 3 [some (rV a0), some (iV a1), some (iV a2)] [] w =
  if a2 < 0 then
   (some (.inr (none, w)))
  else
  if kd w a0 = 10 then
  if kd w a0 = 10 then
  if (kd w (gv w a0 1) = 20 ∧ 32 ≤ (gv w a0 1)) ∧ 0 ≤ (gv w a0 2) ∧ (gv w a0 2) < ln w (gv w a0 1) then
  wl (sv w (gv w a0 1) (gv w a0 2) (f_iand (f_iushr a1 a2) 255)) (fun w1 =>
  if kd w1 a0 = 10 then
  if kd w1 a0 = 10 then
  wl (sv w1 a0 2 (w32 ((gv w1 a0 2) + 1))) (fun w2 =>
  some (.inl (3, [some (rV a0), some (iV a1), some (iV (w32 (a2 + (-8))))], [], w2))) else none else none) else none else none else none := by
  rfl
set_option maxRecDepth 100000 in
theorem eX12_feed_0 (C : sC) (w : sW) (a0 a1 a2 a3 a4 a5 : Int) : sg C mX12_feed 2000 0 [some (rV a0), some (iV a1), some (iV a2), some (iV a3), some (iV a4), some (iV a5)] [] w =
  if kd w a0 = 10 then
  wl (sv w a0 0 0) (fun w1 =>
  if kd w1 a0 = 10 then
  if 940 < (w32 ((gv w1 a0 2) + 20)) then
   (some (.inr (some (iV (-1)), w1)))
  else
  if kd w1 a0 = 10 then
  bN (C 151 w1 [rV a0, iV a1]) (fun w2 =>
  if kd w2 a0 = 10 then
  bN (C 151 w2 [rV a0, iV a2]) (fun w3 =>
  if kd w3 a0 = 10 then
  bN (C 151 w3 [rV a0, iV a3]) (fun w4 =>
  if kd w4 a0 = 10 then
  bN (C 151 w4 [rV a0, iV a4]) (fun w5 =>
  if kd w5 a0 = 10 then
  bN (C 151 w5 [rV a0, iV a5]) (fun w6 =>
  if kd w6 a0 = 10 then
  some (.inr (some (iV (gv w6 a0 2)), w6)) else none) else none) else none) else none) else none) else none else none) else none := by
  rfl
set_option maxRecDepth 100000 in
theorem eX12_end_0 (C : sC) (w : sW) (a0 a1 : Int) : sg C mX12_end 2000 0 [some (rV a0), some (iV a1)] [] w =
  if kd w a0 = 10 then
  wl (sv w a0 0 0) (fun w1 =>
  if a1 < 0 then
   (some (.inr (some (iV 0), w1)))
  else
  if kd w1 a0 = 10 then
  if (gv w1 a0 2) < a1 then
   (some (.inr (some (iV 0), w1)))
  else
  if kd w1 a0 = 10 then
  wl (sv w1 a0 2 a1) (fun w2 =>
  some (.inr (some (iV 1), w2))) else none else none) else none := by
  rfl
set_option maxRecDepth 100000 in
theorem eX12_take_0 (C : sC) (w : sW) (a0 : Int) : sg C mX12_take 2000 0 [some (rV a0), none] [] w =
  if kd w a0 = 10 then
  if kd w a0 = 10 then
  wl (sv w a0 2 0) (fun w1 =>
  some (.inr (some (iV (gv w a0 2)), w1))) else none else none := by
  rfl
set_option maxRecDepth 100000 in
theorem eX12_isIn_0 (C : sC) (w : sW) (a0 a1 a2 : Int) : sg C mX12_isIn 2000 0 [some (iV a0), some (iV a1), some (iV a2)] [] w =
  if a0 < a1 then
   (some (.inr (some (iV 0), w)))
  else
  if a2 < a0 then
   (some (.inr (some (iV 0), w)))
  else
  some (.inr (some (iV 1), w)) := by
  rfl
set_option maxRecDepth 100000 in
theorem eX12_tapeAt_0 (C : sC) (w : sW) (a0 a1 : Int) : sg C mX12_tapeAt 2000 0 [some (rV a0), some (iV a1)] [] w =
  if kd w a0 = 10 then
  if a1 < (gv w a0 3) then
   (if kd w a0 = 10 then
   if kd w (gv w a0 1) = 20 ∧ 0 ≤ a1 ∧ a1 < ln w (gv w a0 1) then
   some (.inr (some (iV (gv w (gv w a0 1) a1)), w)) else none else none)
  else
  some (.inr (some (iV 0), w)) else none := by
  rfl
set_option maxRecDepth 100000 in
theorem eX12_isDigit_0 (C : sC) (w : sW) (a0 : Int) : sg C mX12_isDigit 2000 0 [some (iV a0)] [] w =
  if a0 < 48 then
   (some (.inr (some (iV 0), w)))
  else
  if 57 < a0 then
   (some (.inr (some (iV 0), w)))
  else
  some (.inr (some (iV 1), w)) := by
  rfl
set_option maxRecDepth 100000 in
theorem eX12_isLetter_0 (C : sC) (w : sW) (a0 : Int) : sg C mX12_isLetter 2000 0 [some (iV a0)] [] w =
  if a0 < 97 then
   (some (.inr (some (iV 0), w)))
  else
  if 122 < a0 then
   (some (.inr (some (iV 0), w)))
  else
  some (.inr (some (iV 1), w)) := by
  rfl
set_option maxRecDepth 100000 in
theorem eX12_go_0 (C : sC) (w : sW) (a0 : Int) : sg C mX12_go 2000 0 [some (rV a0), none, none, none, none] [] w =
  if kd w a0 = 10 then
  if kd w a0 = 10 then
  if (gv w a0 5) < (gv w a0 3) then
   (if kd w a0 = 10 then
   if kd w a0 = 10 then
   if kd w (gv w a0 1) = 20 ∧ 0 ≤ (gv w a0 5) ∧ (gv w a0 5) < ln w (gv w a0 1) then
   if (gv w (gv w a0 1) (gv w a0 5)) = 32 then
    (if kd w a0 = 10 then
    if kd w a0 = 10 then
    wl (sv w a0 5 (w32 ((gv w a0 5) + 1))) (fun w1 =>
    some (.inl (0, [some (rV a0), none, none, none, none], [], w1))) else none else none)
   else
   if kd w a0 = 10 then
   if kd w a0 = 10 then
   if kd w (gv w a0 1) = 20 ∧ 0 ≤ (gv w a0 5) ∧ (gv w a0 5) < ln w (gv w a0 1) then
   if (gv w (gv w a0 1) (gv w a0 5)) = 10 then
    (if kd w a0 = 10 then
    if kd w a0 = 10 then
    wl (sv w a0 5 (w32 ((gv w a0 5) + 1))) (fun w2 =>
    some (.inl (0, [some (rV a0), none, none, none, none], [], w2))) else none else none)
   else
   if kd w a0 = 10 then
   if kd w a0 = 10 then
   wl (sv w a0 6 (gv w a0 5)) (fun w3 =>
   if kd w3 a0 = 10 then
   if kd w3 a0 = 10 then
   if (gv w3 a0 4) < (gv w3 a0 3) then
    (if kd w3 a0 = 10 then
    if kd w3 a0 = 10 then
    if (gv w3 a0 6) < (gv w3 a0 4) then
     (some (.inl (96, [some (rV a0), none, none, none, none], [], w3)))
    else
    if kd w3 a0 = 10 then
    if kd w3 a0 = 10 then
    wl (sv w3 a0 6 (gv w3 a0 4)) (fun w4 =>
    if kd w4 a0 = 10 then
    wl (sv w4 a0 7 1) (fun w5 =>
    some (.inr (none, w5))) else none) else none else none else none else none)
   else
   some (.inl (96, [some (rV a0), none, none, none, none], [], w3)) else none else none) else none else none else none else none else none else none else none else none)
  else
  if kd w a0 = 10 then
  if kd w a0 = 10 then
  wl (sv w a0 6 (gv w a0 5)) (fun w6 =>
  if kd w6 a0 = 10 then
  if kd w6 a0 = 10 then
  if (gv w6 a0 4) < (gv w6 a0 3) then
   (if kd w6 a0 = 10 then
   if kd w6 a0 = 10 then
   if (gv w6 a0 6) < (gv w6 a0 4) then
    (some (.inl (96, [some (rV a0), none, none, none, none], [], w6)))
   else
   if kd w6 a0 = 10 then
   if kd w6 a0 = 10 then
   wl (sv w6 a0 6 (gv w6 a0 4)) (fun w7 =>
   if kd w7 a0 = 10 then
   wl (sv w7 a0 7 1) (fun w8 =>
   some (.inr (none, w8))) else none) else none else none else none else none)
  else
  some (.inl (96, [some (rV a0), none, none, none, none], [], w6)) else none else none) else none else none else none else none := by
  rfl
set_option maxRecDepth 100000 in
theorem eX12_go_96 (C : sC) (w : sW) (a0 : Int) : sg C mX12_go 2000 96 [some (rV a0), none, none, none, none] [] w =
  if kd w a0 = 10 then
  if kd w a0 = 10 then
  if (gv w a0 5) < (gv w a0 3) then
   (if kd w a0 = 10 then
   if kd w a0 = 10 then
   if kd w (gv w a0 1) = 20 ∧ 0 ≤ (gv w a0 5) ∧ (gv w a0 5) < ln w (gv w a0 1) then
   bI (C 158 w [iV (gv w (gv w a0 1) (gv w a0 5))]) (fun x2 w1 =>
   if x2 = 0 then
    (bI (C 157 w1 [iV (gv w (gv w a0 1) (gv w a0 5))]) (fun x4 w3 =>
    if x4 = 0 then
     (if (gv w (gv w a0 1) (gv w a0 5)) = 59 then
      (if kd w3 a0 = 10 then
      wl (sv w3 a0 7 4) (fun w5 =>
      if kd w5 a0 = 10 then
      wl (sv w5 a0 9 (gv w (gv w a0 1) (gv w a0 5))) (fun w6 =>
      if kd w6 a0 = 10 then
      if kd w6 a0 = 10 then
      wl (sv w6 a0 5 (w32 ((gv w6 a0 5) + 1))) (fun w7 =>
      some (.inr (none, w7))) else none else none) else none) else none)
     else
     if (gv w (gv w a0 1) (gv w a0 5)) = 60 then
      (if kd w3 a0 = 10 then
      wl (sv w3 a0 7 4) (fun w8 =>
      if kd w8 a0 = 10 then
      wl (sv w8 a0 9 (gv w (gv w a0 1) (gv w a0 5))) (fun w9 =>
      if kd w9 a0 = 10 then
      if kd w9 a0 = 10 then
      wl (sv w9 a0 5 (w32 ((gv w9 a0 5) + 1))) (fun w10 =>
      some (.inr (none, w10))) else none else none) else none) else none)
     else
     if (gv w (gv w a0 1) (gv w a0 5)) = 61 then
      (if kd w3 a0 = 10 then
      wl (sv w3 a0 7 4) (fun w11 =>
      if kd w11 a0 = 10 then
      wl (sv w11 a0 9 (gv w (gv w a0 1) (gv w a0 5))) (fun w12 =>
      if kd w12 a0 = 10 then
      if kd w12 a0 = 10 then
      wl (sv w12 a0 5 (w32 ((gv w12 a0 5) + 1))) (fun w13 =>
      some (.inr (none, w13))) else none else none) else none) else none)
     else
     if (gv w (gv w a0 1) (gv w a0 5)) = 62 then
      (if kd w3 a0 = 10 then
      wl (sv w3 a0 7 4) (fun w14 =>
      if kd w14 a0 = 10 then
      wl (sv w14 a0 9 (gv w (gv w a0 1) (gv w a0 5))) (fun w15 =>
      if kd w15 a0 = 10 then
      if kd w15 a0 = 10 then
      wl (sv w15 a0 5 (w32 ((gv w15 a0 5) + 1))) (fun w16 =>
      some (.inr (none, w16))) else none else none) else none) else none)
     else
     if (gv w (gv w a0 1) (gv w a0 5)) = 40 then
      (if kd w3 a0 = 10 then
      wl (sv w3 a0 7 4) (fun w17 =>
      if kd w17 a0 = 10 then
      wl (sv w17 a0 9 (gv w (gv w a0 1) (gv w a0 5))) (fun w18 =>
      if kd w18 a0 = 10 then
      if kd w18 a0 = 10 then
      wl (sv w18 a0 5 (w32 ((gv w18 a0 5) + 1))) (fun w19 =>
      some (.inr (none, w19))) else none else none) else none) else none)
     else
     if (gv w (gv w a0 1) (gv w a0 5)) = 41 then
      (if kd w3 a0 = 10 then
      wl (sv w3 a0 7 4) (fun w20 =>
      if kd w20 a0 = 10 then
      wl (sv w20 a0 9 (gv w (gv w a0 1) (gv w a0 5))) (fun w21 =>
      if kd w21 a0 = 10 then
      if kd w21 a0 = 10 then
      wl (sv w21 a0 5 (w32 ((gv w21 a0 5) + 1))) (fun w22 =>
      some (.inr (none, w22))) else none else none) else none) else none)
     else
     if kd w3 a0 = 10 then
     wl (sv w3 a0 7 1) (fun w23 =>
     if kd w23 a0 = 10 then
     wl (sv w23 a0 9 (gv w (gv w a0 1) (gv w a0 5))) (fun w24 =>
     if kd w24 a0 = 10 then
     if kd w24 a0 = 10 then
     wl (sv w24 a0 5 (w32 ((gv w24 a0 5) + 1))) (fun w25 =>
     some (.inr (none, w25))) else none else none) else none) else none)
    else
    bI (C 158 w3 [iV (gv w (gv w a0 1) (gv w a0 5))]) (fun x27 w26 =>
    if kd w26 a0 = 10 then
    wl (sv w26 a0 12 0) (fun w28 =>
    if kd w28 a0 = 10 then
    wl (sv w28 a0 8 0) (fun w29 =>
    some (.inl (215, [some (rV a0), none, some (iV x27), some (iV 1), none], [], w29))) else none) else none)))
   else
   bI (C 158 w1 [iV (gv w (gv w a0 1) (gv w a0 5))]) (fun x31 w30 =>
   if kd w30 a0 = 10 then
   wl (sv w30 a0 12 0) (fun w32 =>
   if kd w32 a0 = 10 then
   wl (sv w32 a0 8 0) (fun w33 =>
   some (.inl (215, [some (rV a0), none, some (iV x31), some (iV 1), none], [], w33))) else none) else none)) else none else none else none)
  else
  if kd w a0 = 10 then
  wl (sv w a0 7 0) (fun w34 =>
  some (.inr (none, w34))) else none else none else none := by
  rfl
set_option maxRecDepth 100000 in
theorem eX12_go_215 (C : sC) (w : sW) (a0 a2 a3 : Int) : sg C mX12_go 2000 215 [some (rV a0), none, some (iV a2), some (iV a3), none] [] w =
  if kd w a0 = 10 then
  if kd w a0 = 10 then
  bI (C 156 w [rV a0, iV (gv w a0 5)]) (fun x2 w1 =>
  bI (C 158 w1 [iV x2]) (fun x4 w3 =>
  if x4 = 0 then
   (if kd w3 a0 = 10 then
   if kd w3 a0 = 10 then
   bI (C 156 w3 [rV a0, iV (gv w3 a0 5)]) (fun x6 w5 =>
   bI (C 157 w5 [iV x6]) (fun x8 w7 =>
   if x8 = 0 then
    (if a3 = 0 then
     (if kd w7 a0 = 10 then
     wl (sv w7 a0 7 1) (fun w9 =>
     some (.inr (none, w9))) else none)
    else
    if kd w7 a0 = 10 then
    if kd w7 a0 = 10 then
    if a2 = 0 then
     (if 3 < (w32 ((gv w7 a0 5) - (gv w7 a0 6))) then
      (if kd w7 a0 = 10 then
      wl (sv w7 a0 7 1) (fun w10 =>
      some (.inr (none, w10))) else none)
     else
     if a2 = 0 then
      (if kd w7 a0 = 10 then
      wl (sv w7 a0 7 3) (fun w11 =>
      some (.inr (none, w11))) else none)
     else
     if kd w7 a0 = 10 then
     wl (sv w7 a0 7 2) (fun w12 =>
     some (.inr (none, w12))) else none)
    else
    if 7 < (w32 ((gv w7 a0 5) - (gv w7 a0 6))) then
     (if kd w7 a0 = 10 then
     wl (sv w7 a0 7 1) (fun w13 =>
     some (.inr (none, w13))) else none)
    else
    if a2 = 0 then
     (if kd w7 a0 = 10 then
     wl (sv w7 a0 7 3) (fun w14 =>
     some (.inr (none, w14))) else none)
    else
    if kd w7 a0 = 10 then
    wl (sv w7 a0 7 2) (fun w15 =>
    some (.inr (none, w15))) else none else none else none)
   else
   if kd w7 a0 = 10 then
   if kd w7 a0 = 10 then
   if kd w7 (gv w7 a0 1) = 20 ∧ 0 ≤ (gv w7 a0 5) ∧ (gv w7 a0 5) < ln w7 (gv w7 a0 1) then
   if a3 = 0 then
    (some (.inl (272, [some (rV a0), none, some (iV a2), none, some (iV (gv w7 (gv w7 a0 1) (gv w7 a0 5)))], [iV 0], w7)))
   else
   bI (C 158 w7 [iV (gv w7 (gv w7 a0 1) (gv w7 a0 5))]) (fun x17 w16 =>
   if x17 = a2 then
    (some (.inl (272, [some (rV a0), none, some (iV a2), none, some (iV (gv w7 (gv w7 a0 1) (gv w7 a0 5)))], [iV 1], w16)))
   else
   some (.inl (272, [some (rV a0), none, some (iV a2), none, some (iV (gv w7 (gv w7 a0 1) (gv w7 a0 5)))], [iV 0], w16))) else none else none else none)) else none else none)
  else
  if kd w3 a0 = 10 then
  if kd w3 a0 = 10 then
  if kd w3 (gv w3 a0 1) = 20 ∧ 0 ≤ (gv w3 a0 5) ∧ (gv w3 a0 5) < ln w3 (gv w3 a0 1) then
  if a3 = 0 then
   (some (.inl (272, [some (rV a0), none, some (iV a2), none, some (iV (gv w3 (gv w3 a0 1) (gv w3 a0 5)))], [iV 0], w3)))
  else
  bI (C 158 w3 [iV (gv w3 (gv w3 a0 1) (gv w3 a0 5))]) (fun x19 w18 =>
  if x19 = a2 then
   (some (.inl (272, [some (rV a0), none, some (iV a2), none, some (iV (gv w3 (gv w3 a0 1) (gv w3 a0 5)))], [iV 1], w18)))
  else
  some (.inl (272, [some (rV a0), none, some (iV a2), none, some (iV (gv w3 (gv w3 a0 1) (gv w3 a0 5)))], [iV 0], w18))) else none else none else none)) else none else none := by
  rfl
set_option maxRecDepth 100000 in
theorem eX12_go_272 (C : sC) (w : sW) (a0 a2 a4 b0 : Int) : sg C mX12_go 2000 272 [some (rV a0), none, some (iV a2), none, some (iV a4)] [iV b0] w =
  if kd w a0 = 10 then
  if kd w a0 = 10 then
  if (w32 ((gv w a0 5) - (gv w a0 6))) < 7 then
   (if kd w a0 = 10 then
   if kd w a0 = 10 then
   wl (sv w a0 12 (w64 ((w64 ((w64 (27 * (gv w a0 12))) + a4)) - 96))) (fun w1 =>
   if kd w1 a0 = 10 then
   if kd w1 a0 = 10 then
   if (w32 ((gv w1 a0 5) - (gv w1 a0 6))) < 3 then
    (if kd w1 a0 = 10 then
    if kd w1 a0 = 10 then
    wl (sv w1 a0 8 (w32 ((w32 ((w32 (10 * (gv w1 a0 8))) + a4)) - 48))) (fun w2 =>
    if kd w2 a0 = 10 then
    if kd w2 a0 = 10 then
    wl (sv w2 a0 5 (w32 ((gv w2 a0 5) + 1))) (fun w3 =>
    some (.inl (215, [some (rV a0), none, some (iV a2), some (iV b0), none], [], w3))) else none else none) else none else none)
   else
   if kd w1 a0 = 10 then
   if kd w1 a0 = 10 then
   wl (sv w1 a0 5 (w32 ((gv w1 a0 5) + 1))) (fun w4 =>
   some (.inl (215, [some (rV a0), none, some (iV a2), some (iV b0), none], [], w4))) else none else none else none else none) else none else none)
  else
  if kd w a0 = 10 then
  if kd w a0 = 10 then
  if (w32 ((gv w a0 5) - (gv w a0 6))) < 3 then
   (if kd w a0 = 10 then
   if kd w a0 = 10 then
   wl (sv w a0 8 (w32 ((w32 ((w32 (10 * (gv w a0 8))) + a4)) - 48))) (fun w5 =>
   if kd w5 a0 = 10 then
   if kd w5 a0 = 10 then
   wl (sv w5 a0 5 (w32 ((gv w5 a0 5) + 1))) (fun w6 =>
   some (.inl (215, [some (rV a0), none, some (iV a2), some (iV b0), none], [], w6))) else none else none) else none else none)
  else
  if kd w a0 = 10 then
  if kd w a0 = 10 then
  wl (sv w a0 5 (w32 ((gv w a0 5) + 1))) (fun w7 =>
  some (.inl (215, [some (rV a0), none, some (iV a2), some (iV b0), none], [], w7))) else none else none else none else none else none else none := by
  rfl
set_option maxRecDepth 100000 in
theorem eX12_spelt_0 (C : sC) (w : sW) (a0 a1 a2 a3 a4 a5 a6 : Int) : sg C mX12_spelt 2000 0 [some (iV a0), some (iV a1), some (iV a2), some (iV a3), some (iV a4), some (iV a5), some (iV a6), none, none] [] w =
  if 0 < a2 then
   (if 0 < a3 then
    (if 0 < a4 then
     (some (.inl (78, [none, none, none, none, none, some (iV a5), some (iV a6), some (lV (w64 ((w64 ((w64 (27 * (w64 ((w64 ((w64 (27 * (w64 ((w64 ((w64 (27 * (w64 ((w64 ((w64 (27 * (w64 (a0 - 96)))) + a1)) - 96)))) + a2)) - 96)))) + a3)) - 96)))) + a4)) - 96))), none], [], w)))
    else
    some (.inl (78, [none, none, none, none, none, some (iV a5), some (iV a6), some (lV (w64 ((w64 ((w64 (27 * (w64 ((w64 ((w64 (27 * (w64 ((w64 ((w64 (27 * (w64 (a0 - 96)))) + a1)) - 96)))) + a2)) - 96)))) + a3)) - 96))), none], [], w)))
   else
   if 0 < a4 then
    (some (.inl (78, [none, none, none, none, none, some (iV a5), some (iV a6), some (lV (w64 ((w64 ((w64 (27 * (w64 ((w64 ((w64 (27 * (w64 ((w64 ((w64 (27 * (w64 (a0 - 96)))) + a1)) - 96)))) + a2)) - 96)))) + a4)) - 96))), none], [], w)))
   else
   some (.inl (78, [none, none, none, none, none, some (iV a5), some (iV a6), some (lV (w64 ((w64 ((w64 (27 * (w64 ((w64 ((w64 (27 * (w64 (a0 - 96)))) + a1)) - 96)))) + a2)) - 96))), none], [], w)))
  else
  if 0 < a3 then
   (if 0 < a4 then
    (some (.inl (78, [none, none, none, none, none, some (iV a5), some (iV a6), some (lV (w64 ((w64 ((w64 (27 * (w64 ((w64 ((w64 (27 * (w64 ((w64 ((w64 (27 * (w64 (a0 - 96)))) + a1)) - 96)))) + a3)) - 96)))) + a4)) - 96))), none], [], w)))
   else
   some (.inl (78, [none, none, none, none, none, some (iV a5), some (iV a6), some (lV (w64 ((w64 ((w64 (27 * (w64 ((w64 ((w64 (27 * (w64 (a0 - 96)))) + a1)) - 96)))) + a3)) - 96))), none], [], w)))
  else
  if 0 < a4 then
   (some (.inl (78, [none, none, none, none, none, some (iV a5), some (iV a6), some (lV (w64 ((w64 ((w64 (27 * (w64 ((w64 ((w64 (27 * (w64 (a0 - 96)))) + a1)) - 96)))) + a4)) - 96))), none], [], w)))
  else
  some (.inl (78, [none, none, none, none, none, some (iV a5), some (iV a6), some (lV (w64 ((w64 ((w64 (27 * (w64 (a0 - 96)))) + a1)) - 96))), none], [], w)) := by
  rfl
set_option maxRecDepth 100000 in
theorem eX12_spelt_78 (C : sC) (w : sW) (a5 a6 a7 : Int) : sg C mX12_spelt 2000 78 [none, none, none, none, none, some (iV a5), some (iV a6), some (lV a7), none] [] w =
  if 0 < a5 then
   (if 0 < a6 then
    (some (.inr (some (lV (w64 ((w64 ((w64 (27 * (w64 ((w64 ((w64 (27 * a7)) + a5)) - 96)))) + a6)) - 96))), w)))
   else
   some (.inr (some (lV (w64 ((w64 ((w64 (27 * a7)) + a5)) - 96))), w)))
  else
  if 0 < a6 then
   (some (.inr (some (lV (w64 ((w64 ((w64 (27 * a7)) + a6)) - 96))), w)))
  else
  some (.inr (some (lV a7), w)) := by
  rfl
set_option maxRecDepth 100000 in
theorem eX12_wordOf_0 (C : sC) (w : sW) (a0 : Int) : sg C mX12_wordOf 2000 0 [some (iV a0)] [] w =
  if a0 = 0 then
   (bL (C 160 w [iV 108, iV 101, iV 97, iV 102, iV 0, iV 0, iV 0]) (fun y2 w1 =>
   some (.inr (some (lV y2), w1))))
  else if a0 = 1 then
   (bL (C 160 w [iV 114, iV 111, iV 119, iV 0, iV 0, iV 0, iV 0]) (fun y4 w3 =>
   some (.inr (some (lV y4), w3))))
  else if a0 = 2 then
   (bL (C 160 w [iV 108, iV 101, iV 116, iV 116, iV 101, iV 114, iV 115]) (fun y6 w5 =>
   some (.inr (some (lV y6), w5))))
  else if a0 = 3 then
   (bL (C 160 w [iV 112, iV 117, iV 116, iV 0, iV 0, iV 0, iV 0]) (fun y8 w7 =>
   some (.inr (some (lV y8), w7))))
  else if a0 = 4 then
   (bL (C 160 w [iV 115, iV 101, iV 116, iV 0, iV 0, iV 0, iV 0]) (fun y10 w9 =>
   some (.inr (some (lV y10), w9))))
  else if a0 = 5 then
   (bL (C 160 w [iV 99, iV 117, iV 116, iV 0, iV 0, iV 0, iV 0]) (fun y12 w11 =>
   some (.inr (some (lV y12), w11))))
  else if a0 = 6 then
   (bL (C 160 w [iV 116, iV 117, iV 114, iV 110, iV 0, iV 0, iV 0]) (fun y14 w13 =>
   some (.inr (some (lV y14), w13))))
  else if a0 = 7 then
   (bL (C 160 w [iV 106, iV 111, iV 105, iV 110, iV 0, iV 0, iV 0]) (fun y16 w15 =>
   some (.inr (some (lV y16), w15))))
  else if a0 = 8 then
   (bL (C 160 w [iV 115, iV 112, iV 108, iV 105, iV 116, iV 0, iV 0]) (fun y18 w17 =>
   some (.inr (some (lV y18), w17))))
  else if a0 = 9 then
   (bL (C 160 w [iV 116, iV 121, iV 112, iV 101, iV 0, iV 0, iV 0]) (fun y20 w19 =>
   some (.inr (some (lV y20), w19))))
  else if a0 = 10 then
   (bL (C 160 w [iV 101, iV 114, iV 97, iV 115, iV 101, iV 0, iV 0]) (fun y22 w21 =>
   some (.inr (some (lV y22), w21))))
  else if a0 = 11 then
   (bL (C 160 w [iV 111, iV 114, iV 0, iV 0, iV 0, iV 0, iV 0]) (fun y24 w23 =>
   some (.inr (some (lV y24), w23))))
  else if a0 = 12 then
   (bL (C 160 w [iV 97, iV 110, iV 100, iV 0, iV 0, iV 0, iV 0]) (fun y26 w25 =>
   some (.inr (some (lV y26), w25))))
  else if a0 = 13 then
   (bL (C 160 w [iV 110, iV 111, iV 116, iV 0, iV 0, iV 0, iV 0]) (fun y28 w27 =>
   some (.inr (some (lV y28), w27))))
  else if a0 = 14 then
   (bL (C 160 w [iV 101, iV 109, iV 112, iV 116, iV 121, iV 0, iV 0]) (fun y30 w29 =>
   some (.inr (some (lV y30), w29))))
  else if a0 = 15 then
   (bL (C 160 w [iV 101, iV 118, iV 101, iV 110, iV 0, iV 0, iV 0]) (fun y32 w31 =>
   some (.inr (some (lV y32), w31))))
  else if a0 = 16 then
   (bL (C 160 w [iV 108, iV 105, iV 107, iV 101, iV 0, iV 0, iV 0]) (fun y34 w33 =>
   some (.inr (some (lV y34), w33))))
  else if a0 = 17 then
   (bL (C 160 w [iV 98, iV 101, iV 103, iV 105, iV 110, iV 115, iV 0]) (fun y36 w35 =>
   some (.inr (some (lV y36), w35))))
  else if a0 = 18 then
   (bL (C 160 w [iV 115, iV 105, iV 122, iV 101, iV 0, iV 0, iV 0]) (fun y38 w37 =>
   some (.inr (some (lV y38), w37))))
  else if a0 = 19 then
   (bL (C 160 w [iV 111, iV 110, iV 101, iV 115, iV 0, iV 0, iV 0]) (fun y40 w39 =>
   some (.inr (some (lV y40), w39))))
  else if a0 = 20 then
   (bL (C 160 w [iV 114, iV 117, iV 110, iV 115, iV 0, iV 0, iV 0]) (fun y42 w41 =>
   some (.inr (some (lV y42), w41))))
  else if a0 = 21 then
   (bL (C 160 w [iV 108, iV 101, iV 97, iV 118, iV 101, iV 115, iV 0]) (fun y44 w43 =>
   some (.inr (some (lV y44), w43))))
  else bL (C 160 w [iV 110, iV 117, iV 109, iV 98, iV 101, iV 114, iV 0]) (fun y46 w45 =>
  some (.inr (some (lV y46), w45))) := by
  rfl
set_option maxRecDepth 100000 in
theorem eX12_isWord_0 (C : sC) (w : sW) (a0 a1 : Int) : sg C mX12_isWord 2000 0 [some (rV a0), some (iV a1)] [] w =
  if kd w a0 = 10 then
  if (gv w a0 7) = 2 then
   (if kd w a0 = 10 then
   bL (C 161 w [iV a1]) (fun y2 w1 =>
   if (cmpL (gv w a0 12) y2) = 0 then
    (some (.inr (some (iV 1), w1)))
   else
   some (.inr (some (iV 0), w1))) else none)
  else
  some (.inr (some (iV 0), w)) else none := by
  rfl
set_option maxRecDepth 100000 in
theorem eX12_isSign_0 (C : sC) (w : sW) (a0 a1 : Int) : sg C mX12_isSign 2000 0 [some (rV a0), some (iV a1)] [] w =
  if kd w a0 = 10 then
  if (gv w a0 7) = 4 then
   (if kd w a0 = 10 then
   if (gv w a0 9) = a1 then
    (some (.inr (some (iV 1), w)))
   else
   some (.inr (some (iV 0), w)) else none)
  else
  some (.inr (some (iV 0), w)) else none := by
  rfl
set_option maxRecDepth 100000 in
theorem eX12_isName_0 (C : sC) (w : sW) (a0 : Int) : sg C mX12_isName 2000 0 [some (rV a0), none] [] w =
  if kd w a0 = 10 then
  if (gv w a0 7) = 2 then
   (some (.inl (12, [some (rV a0), some (iV 0)], [], w)))
  else
  some (.inr (some (iV 0), w)) else none := by
  rfl
set_option maxRecDepth 100000 in
theorem eX12_isName_12 (C : sC) (w : sW) (a0 a1 : Int) : sg C mX12_isName 2000 12 [some (rV a0), some (iV a1)] [] w =
  if 22 < a1 then
   (some (.inr (some (iV 1), w)))
  else
  if kd w a0 = 10 then
  bL (C 161 w [iV a1]) (fun y2 w1 =>
  if (cmpL (gv w a0 12) y2) = 0 then
   (some (.inr (some (iV 0), w1)))
  else
  some (.inl (12, [some (rV a0), some (iV (w32 (a1 + 1)))], [], w1))) else none := by
  rfl
set_option maxRecDepth 100000 in
theorem eX12_bad_0 (C : sC) (w : sW) (a0 a1 : Int) : sg C mX12_bad 2000 0 [some (rV a0), some (iV a1)] [] w =
  if kd w a0 = 10 then
  if (gv w a0 7) = 1 then
   (if kd w a0 = 10 then
   wl (sv w a0 10 1) (fun w1 =>
   if kd w1 a0 = 10 then
   if kd w1 a0 = 10 then
   wl (sv w1 a0 11 (gv w1 a0 6)) (fun w2 =>
   some (.inr (some (iV 0), w2))) else none else none) else none)
  else
  if kd w a0 = 10 then
  wl (sv w a0 10 a1) (fun w3 =>
  if kd w3 a0 = 10 then
  if kd w3 a0 = 10 then
  wl (sv w3 a0 11 (gv w3 a0 6)) (fun w4 =>
  some (.inr (some (iV 0), w4))) else none else none) else none else none := by
  rfl
set_option maxRecDepth 100000 in
theorem eX12_readNumber_0 (C : sC) (w : sW) (a0 a1 a2 : Int) : sg C mX12_readNumber 2000 0 [some (rV a0), some (iV a1), some (iV a2)] [] w =
  if kd w a0 = 10 then
  if (gv w a0 7) = 3 then
   (if kd w a0 = 10 then
   bI (C 155 w [iV (gv w a0 8), iV a1, iV a2]) (fun x2 w1 =>
   if x2 = 0 then
    (if kd w1 a0 = 10 then
    bI (C 165 w1 [rV a0, iV 2]) (fun x4 w3 =>
    if x4 = 0 ∨ x4 = 1 then some (.inr (some (iV x4), w3)) else none) else none)
   else
   if kd w1 a0 = 10 then
   if kd w1 a0 = 10 then
   wl (sv w1 a0 13 (gv w1 a0 8)) (fun w5 =>
   if kd w5 a0 = 10 then
   bN (C 159 w5 [rV a0]) (fun w6 =>
   some (.inr (some (iV 1), w6))) else none) else none else none) else none)
  else
  if kd w a0 = 10 then
  bI (C 165 w [rV a0, iV 1]) (fun x8 w7 =>
  if x8 = 0 ∨ x8 = 1 then some (.inr (some (iV x8), w7)) else none) else none else none := by
  rfl
set_option maxRecDepth 100000 in
theorem eX12_readEnd_0 (C : sC) (w : sW) (a0 : Int) : sg C mX12_readEnd 2000 0 [some (rV a0)] [] w =
  if kd w a0 = 10 then
  bI (C 163 w [rV a0, iV 59]) (fun x2 w1 =>
  if x2 = 0 then
   (if kd w1 a0 = 10 then
   bI (C 165 w1 [rV a0, iV 1]) (fun x4 w3 =>
   if x4 = 0 ∨ x4 = 1 then some (.inr (some (iV x4), w3)) else none) else none)
  else
  if kd w1 a0 = 10 then
  bN (C 159 w1 [rV a0]) (fun w5 =>
  some (.inr (some (iV 1), w5))) else none) else none := by
  rfl
set_option maxRecDepth 100000 in
theorem eX12_begin_0 (C : sC) (w : sW) (a0 a1 : Int) : sg C mX12_begin 2000 0 [some (rV a0), some (iV a1)] [] w =
  if kd w a0 = 10 then
  wl (sv w a0 0 0) (fun w1 =>
  if kd w1 a0 = 10 then
  bI (C 154 w1 [rV a0]) (fun x3 w2 =>
  if kd w2 a0 = 10 then
  wl (sv w2 a0 3 x3) (fun w4 =>
  if kd w4 a0 = 10 then
  wl (sv w4 a0 4 a1) (fun w5 =>
  if kd w5 a0 = 10 then
  wl (sv w5 a0 10 0) (fun w6 =>
  if kd w6 a0 = 10 then
  wl (sv w6 a0 5 0) (fun w7 =>
  if kd w7 a0 = 10 then
  bN (C 159 w7 [rV a0]) (fun w8 =>
  some (.inr (none, w8))) else none) else none) else none) else none) else none) else none) else none := by
  rfl
set_option maxRecDepth 100000 in
theorem eX12_init_0 (C : sC) (w : sW) (a0 : Int) : sg C mX12_init 2000 0 [some (rV a0)] [] w =
  if kd w a0 = 10 then
  if 0 ≤ (940 : Int) ∧ (940 : Int) ≤ 100000 then
  wl (al w 20 940 (Int.toNat 940)) (fun w1 =>
  if kd w1 a0 = 10 then
  wl (sv w1 a0 1 (nx w)) (fun w2 =>
  if 0 ≤ (6062 : Int) ∧ (6062 : Int) ≤ 100000 then
  wl (al w2 20 6062 (Int.toNat 6062)) (fun w3 =>
  if kd w3 a0 = 10 then
  wl (sv w3 a0 14 (nx w2)) (fun w4 =>
  if 0 ≤ (2607 : Int) ∧ (2607 : Int) ≤ 100000 then
  wl (al w4 20 2607 (Int.toNat 2607)) (fun w5 =>
  if kd w5 a0 = 10 then
  wl (sv w5 a0 15 (nx w4)) (fun w6 =>
  if 0 ≤ (12124 : Int) ∧ (12124 : Int) ≤ 100000 then
  wl (al w6 20 12124 (Int.toNat 12124)) (fun w7 =>
  if kd w7 a0 = 10 then
  wl (sv w7 a0 16 (nx w6)) (fun w8 =>
  if 0 ≤ (25704 : Int) ∧ (25704 : Int) ≤ 100000 then
  wl (al w8 20 25704 (Int.toNat 25704)) (fun w9 =>
  if kd w9 a0 = 10 then
  wl (sv w9 a0 17 (nx w8)) (fun w10 =>
  if 0 ≤ (3213 : Int) ∧ (3213 : Int) ≤ 100000 then
  wl (al w10 20 3213 (Int.toNat 3213)) (fun w11 =>
  if kd w11 a0 = 10 then
  wl (sv w11 a0 18 (nx w10)) (fun w12 =>
  if 0 ≤ (3213 : Int) ∧ (3213 : Int) ≤ 100000 then
  wl (al w12 20 3213 (Int.toNat 3213)) (fun w13 =>
  if kd w13 a0 = 10 then
  wl (sv w13 a0 19 (nx w12)) (fun w14 =>
  if 0 ≤ (4 : Int) ∧ (4 : Int) ≤ 100000 then
  wl (al w14 22 4 (Int.toNat 4)) (fun w15 =>
  if kd w15 a0 = 10 then
  wl (sv w15 a0 20 (nx w14)) (fun w16 =>
  if 0 ≤ (4 : Int) ∧ (4 : Int) ≤ 100000 then
  wl (al w16 22 4 (Int.toNat 4)) (fun w17 =>
  if kd w17 a0 = 10 then
  wl (sv w17 a0 21 (nx w16)) (fun w18 =>
  if 0 ≤ (8 : Int) ∧ (8 : Int) ≤ 100000 then
  wl (al w18 22 8 (Int.toNat 8)) (fun w19 =>
  if kd w19 a0 = 10 then
  wl (sv w19 a0 22 (nx w18)) (fun w20 =>
  if 0 ≤ (2 : Int) ∧ (2 : Int) ≤ 100000 then
  wl (al w20 23 2 (Int.toNat 2)) (fun w21 =>
  if kd w21 a0 = 10 then
  wl (sv w21 a0 23 (nx w20)) (fun w22 =>
  if 0 ≤ (600 : Int) ∧ (600 : Int) ≤ 100000 then
  wl (al w22 20 600 (Int.toNat 600)) (fun w23 =>
  if kd w23 a0 = 10 then
  wl (sv w23 a0 27 (nx w22)) (fun w24 =>
  if 0 ≤ (160 : Int) ∧ (160 : Int) ≤ 100000 then
  wl (al w24 20 160 (Int.toNat 160)) (fun w25 =>
  if kd w25 a0 = 10 then
  wl (sv w25 a0 30 (nx w24)) (fun w26 =>
  if 0 ≤ (4 : Int) ∧ (4 : Int) ≤ 100000 then
  wl (al w26 20 4 (Int.toNat 4)) (fun w27 =>
  if kd w27 a0 = 10 then
  wl (sv w27 a0 31 (nx w26)) (fun w28 =>
  if 0 ≤ (240 : Int) ∧ (240 : Int) ≤ 100000 then
  wl (al w28 20 240 (Int.toNat 240)) (fun w29 =>
  if kd w29 a0 = 10 then
  wl (sv w29 a0 34 (nx w28)) (fun w30 =>
  if kd w30 a0 = 10 then
  if (kd w30 (gv w30 a0 14) = 20 ∧ 32 ≤ (gv w30 a0 14)) ∧ 0 ≤ (1 : Int) ∧ (1 : Int) < ln w30 (gv w30 a0 14) then
  wl (sv w30 (gv w30 a0 14) 1 8) (fun w31 =>
  some (.inr (none, w31))) else none else none) else none) else none) else none) else none) else none) else none) else none) else none) else none) else none) else none) else none) else none) else none) else none) else none) else none) else none) else none) else none) else none) else none) else none) else none) else none) else none) else none) else none) else none) else none else none := by
  rfl
set_option maxRecDepth 100000 in
theorem eX12_startSo_0 (C : sC) (w : sW) (a0 : Int) : sg C mX12_startSo 2000 0 [some (rV a0), none, none] [] w =
  some (.inl (4, [some (rV a0), some (iV 2607), none], [], w)) := by
  rfl
set_option maxRecDepth 100000 in
theorem eX12_startSo_4 (C : sC) (w : sW) (a0 a1 : Int) : sg C mX12_startSo 2000 4 [some (rV a0), some (iV a1), none] [] w =
  if a1 < 6062 then
   (if kd w a0 = 10 then
   if (kd w (gv w a0 14) = 20 ∧ 32 ≤ (gv w a0 14)) ∧ 0 ≤ a1 ∧ a1 < ln w (gv w a0 14) then
   wl (sv w (gv w a0 14) a1 0) (fun w1 =>
   some (.inl (4, [some (rV a0), some (iV (w32 (a1 + 1))), none], [], w1))) else none else none)
  else
  some (.inl (26, [some (rV a0), some (iV 0), none], [], w)) := by
  rfl
set_option maxRecDepth 100000 in
theorem eX12_startSo_26 (C : sC) (w : sW) (a0 a1 : Int) : sg C mX12_startSo 2000 26 [some (rV a0), some (iV a1), none] [] w =
  if kd w a0 = 10 then
  if kd w (gv w a0 14) = 20 ∧ 0 ≤ (0 : Int) ∧ (0 : Int) < ln w (gv w a0 14) then
  if a1 < (gv w (gv w a0 14) 0) then
   (some (.inl (38, [some (rV a0), some (iV a1), some (iV 0)], [], w)))
  else
  if kd w a0 = 10 then
  if kd w a0 = 10 then
  if kd w (gv w a0 14) = 20 ∧ 0 ≤ (6 : Int) ∧ (6 : Int) < ln w (gv w a0 14) then
  if (kd w (gv w a0 14) = 20 ∧ 32 ≤ (gv w a0 14)) ∧ 0 ≤ (2615 : Int) ∧ (2615 : Int) < ln w (gv w a0 14) then
  wl (sv w (gv w a0 14) 2615 (gv w (gv w a0 14) 6)) (fun w1 =>
  some (.inl (101, [some (rV a0), some (iV 0), none], [], w1))) else none else none else none else none else none else none := by
  rfl
set_option maxRecDepth 100000 in
theorem eX12_startSo_38 (C : sC) (w : sW) (a0 a1 a2 : Int) : sg C mX12_startSo 2000 38 [some (rV a0), some (iV a1), some (iV a2)] [] w =
  if kd w a0 = 10 then
  if kd w (gv w a0 14) = 20 ∧ 0 ≤ (w32 (2 + a1)) ∧ (w32 (2 + a1)) < ln w (gv w a0 14) then
  if a2 < (gv w (gv w a0 14) (w32 (2 + a1))) then
   (if kd w a0 = 10 then
   if kd w (gv w a0 14) = 20 ∧ 0 ≤ (w32 ((w32 (207 + (w32 (600 * a1)))) + a2)) ∧ (w32 ((w32 (207 + (w32 (600 * a1)))) + a2)) < ln w (gv w a0 14) then
   if kd w a0 = 10 then
   bN (C 185 w [rV a0, iV a1, iV a2, iV (gv w (gv w a0 14) (w32 ((w32 (207 + (w32 (600 * a1)))) + a2)))]) (fun w1 =>
   some (.inl (38, [some (rV a0), some (iV a1), some (iV (w32 (a2 + 1)))], [], w1))) else none else none else none)
  else
  some (.inl (26, [some (rV a0), some (iV (w32 (a1 + 1))), none], [], w)) else none else none := by
  rfl
set_option maxRecDepth 100000 in
theorem eX12_startSo_101 (C : sC) (w : sW) (a0 a1 : Int) : sg C mX12_startSo 2000 101 [some (rV a0), some (iV a1), none] [] w =
  if a1 < 200 then
   (if kd w a0 = 10 then
   if kd w a0 = 10 then
   if kd w (gv w a0 14) = 20 ∧ 0 ≤ (w32 (7 + a1)) ∧ (w32 (7 + a1)) < ln w (gv w a0 14) then
   if (kd w (gv w a0 14) = 20 ∧ 32 ≤ (gv w a0 14)) ∧ 0 ≤ (w32 (2616 + a1)) ∧ (w32 (2616 + a1)) < ln w (gv w a0 14) then
   wl (sv w (gv w a0 14) (w32 (2616 + a1)) (gv w (gv w a0 14) (w32 (7 + a1)))) (fun w1 =>
   some (.inl (101, [some (rV a0), some (iV (w32 (a1 + 1))), none], [], w1))) else none else none else none else none)
  else
  some (.inr (none, w)) := by
  rfl
set_option maxRecDepth 100000 in
theorem eX12_findIn_0 (C : sC) (w : sW) (a0 a1 a2 : Int) : sg C mX12_findIn 2000 0 [some (rV a0), some (iV a1), some (lV a2), none, none] [] w =
  some (.inl (3, [some (rV a0), some (iV a1), some (lV a2), none, some (iV 0)], [], w)) := by
  rfl
set_option maxRecDepth 100000 in
theorem eX12_findIn_3 (C : sC) (w : sW) (a0 a1 a2 a4 : Int) : sg C mX12_findIn 2000 3 [some (rV a0), some (iV a1), some (lV a2), none, some (iV a4)] [] w =
  if a4 < a1 then
   (if kd w a0 = 22 ∧ 0 ≤ a4 ∧ a4 < ln w a0 then
   if (cmpL (gv w a0 a4) a2) = 0 then
    (some (.inr (some (iV a4), w)))
   else
   some (.inl (3, [some (rV a0), some (iV a1), some (lV a2), none, some (iV (w32 (a4 + 1)))], [], w)) else none)
  else
  some (.inr (some (iV (-1)), w)) := by
  rfl
set_option maxRecDepth 100000 in
theorem eX12_readLeaf_0 (C : sC) (w : sW) (a0 a1 : Int) : sg C mX12_readLeaf 2000 0 [some (rV a0), some (iV a1)] [] w =
  if 0 < a1 then
   (if kd w a0 = 10 then
   bI (C 165 w [rV a0, iV 3]) (fun x2 w1 =>
   if x2 = 0 ∨ x2 = 1 then some (.inr (some (iV x2), w1)) else none) else none)
  else
  if kd w a0 = 10 then
  bN (C 159 w [rV a0]) (fun w3 =>
  if kd w3 a0 = 10 then
  bI (C 166 w3 [rV a0, iV 4, iV 32]) (fun x5 w4 =>
  if x5 = 0 then
   (some (.inr (some (iV 0), w4)))
  else
  if kd w4 a0 = 10 then
  if kd w4 a0 = 10 then
  if (kd w4 (gv w4 a0 15) = 20 ∧ 32 ≤ (gv w4 a0 15)) ∧ 0 ≤ (1 : Int) ∧ (1 : Int) < ln w4 (gv w4 a0 15) then
  wl (sv w4 (gv w4 a0 15) 1 (gv w4 a0 13)) (fun w6 =>
  some (.inr (some (iV 1), w6))) else none else none else none) else none) else none := by
  rfl
set_option maxRecDepth 100000 in
theorem eX12_areOf_0 (C : sC) (w : sW) (a0 a1 : Int) : sg C mX12_areOf 2000 0 [some (rV a0), some (iV a1), none] [] w =
  if kd w a0 = 10 then
  some (.inl (5, [some (rV a0), some (iV a1), some (iV (gv w a0 6))], [], w)) else none := by
  rfl
set_option maxRecDepth 100000 in
theorem eX12_areOf_5 (C : sC) (w : sW) (a0 a1 a2 : Int) : sg C mX12_areOf 2000 5 [some (rV a0), some (iV a1), some (iV a2)] [] w =
  if kd w a0 = 10 then
  if a2 < (gv w a0 5) then
   (if kd w a0 = 10 then
   if kd w (gv w a0 1) = 20 ∧ 0 ≤ a2 ∧ a2 < ln w (gv w a0 1) then
   if a1 < (gv w (gv w a0 1) a2) then
    (some (.inr (some (iV 0), w)))
   else
   some (.inl (5, [some (rV a0), some (iV a1), some (iV (w32 (a2 + 1)))], [], w)) else none else none)
  else
  some (.inr (some (iV 1), w)) else none := by
  rfl
set_option maxRecDepth 100000 in
theorem eX12_areBits_0 (C : sC) (w : sW) (a0 : Int) : sg C mX12_areBits 2000 0 [some (rV a0), none] [] w =
  if kd w a0 = 10 then
  some (.inl (5, [some (rV a0), some (iV (gv w a0 6))], [], w)) else none := by
  rfl
set_option maxRecDepth 100000 in
theorem eX12_areBits_5 (C : sC) (w : sW) (a0 a1 : Int) : sg C mX12_areBits 2000 5 [some (rV a0), some (iV a1)] [] w =
  if kd w a0 = 10 then
  if a1 < (gv w a0 5) then
   (if kd w a0 = 10 then
   if kd w (gv w a0 1) = 20 ∧ 0 ≤ a1 ∧ a1 < ln w (gv w a0 1) then
   if (gv w (gv w a0 1) a1) = 105 then
    (some (.inl (5, [some (rV a0), some (iV (w32 (a1 + 1)))], [], w)))
   else
   if kd w a0 = 10 then
   if kd w (gv w a0 1) = 20 ∧ 0 ≤ a1 ∧ a1 < ln w (gv w a0 1) then
   if (gv w (gv w a0 1) a1) = 111 then
    (some (.inl (5, [some (rV a0), some (iV (w32 (a1 + 1)))], [], w)))
   else
   some (.inr (some (iV 0), w)) else none else none else none else none)
  else
  some (.inr (some (iV 1), w)) else none := by
  rfl
set_option maxRecDepth 100000 in
theorem eX12_readRow_0 (C : sC) (w : sW) (a0 : Int) : sg C mX12_readRow 2000 0 [some (rV a0), none, none] [] w =
  if kd w a0 = 10 then
  if kd w (gv w a0 15) = 20 ∧ 0 ≤ (0 : Int) ∧ (0 : Int) < ln w (gv w a0 15) then
  if (gv w (gv w a0 15) 0) = 4 then
   (if kd w a0 = 10 then
   bI (C 165 w [rV a0, iV 4]) (fun x2 w1 =>
   if x2 = 0 ∨ x2 = 1 then some (.inr (some (iV x2), w1)) else none) else none)
  else
  if kd w a0 = 10 then
  if kd w (gv w a0 15) = 20 ∧ 0 ≤ (0 : Int) ∧ (0 : Int) < ln w (gv w a0 15) then
  if kd w a0 = 10 then
  bN (C 159 w [rV a0]) (fun w3 =>
  if kd w3 a0 = 10 then
  bI (C 164 w3 [rV a0]) (fun x5 w4 =>
  if x5 = 0 then
   (if kd w4 a0 = 10 then
   bI (C 165 w4 [rV a0, iV 1]) (fun x7 w6 =>
   if x7 = 0 ∨ x7 = 1 then some (.inr (some (iV x7), w6)) else none) else none)
  else
  if kd w4 a0 = 10 then
  if kd w4 a0 = 10 then
  bI (C 171 w4 [rV (gv w4 a0 21), iV (gv w (gv w a0 15) 0), lV (gv w4 a0 12)]) (fun x9 w8 =>
  if x9 = (-1) then
   (if kd w8 a0 = 10 then
   if kd w8 a0 = 10 then
   if kd w8 (gv w8 a0 21) = 22 ∧ 0 ≤ (gv w (gv w a0 15) 0) ∧ (gv w (gv w a0 15) 0) < ln w8 (gv w8 a0 21) then
   wl (sv w8 (gv w8 a0 21) (gv w (gv w a0 15) 0) (gv w8 a0 12)) (fun w10 =>
   if kd w10 a0 = 10 then
   if kd w10 (gv w10 a0 15) = 20 ∧ 0 ≤ (0 : Int) ∧ (0 : Int) < ln w10 (gv w10 a0 15) then
   if (kd w10 (gv w10 a0 15) = 20 ∧ 32 ≤ (gv w10 a0 15)) ∧ 0 ≤ (0 : Int) ∧ (0 : Int) < ln w10 (gv w10 a0 15) then
   wl (sv w10 (gv w10 a0 15) 0 (w32 ((gv w10 (gv w10 a0 15) 0) + 1))) (fun w11 =>
   if kd w11 a0 = 10 then
   bN (C 159 w11 [rV a0]) (fun w12 =>
   some (.inl (86, [some (rV a0), some (iV (gv w (gv w a0 15) 0)), none], [], w12))) else none) else none else none else none) else none else none else none)
  else
  if kd w8 a0 = 10 then
  bI (C 165 w8 [rV a0, iV 3]) (fun x14 w13 =>
  if x14 = 0 ∨ x14 = 1 then some (.inr (some (iV x14), w13)) else none) else none) else none else none) else none) else none else none else none else none else none := by
  rfl
set_option maxRecDepth 100000 in
theorem eX12_readRow_86 (C : sC) (w : sW) (a0 a1 : Int) : sg C mX12_readRow 2000 86 [some (rV a0), some (iV a1), none] [] w =
  if kd w a0 = 10 then
  if (gv w a0 7) = 2 then
   (if kd w a0 = 10 then
   bI (C 174 w [rV a0]) (fun x2 w1 =>
   if x2 = 0 then
    (if kd w1 a0 = 10 then
    bI (C 165 w1 [rV a0, iV 2]) (fun x4 w3 =>
    if x4 = 0 ∨ x4 = 1 then some (.inr (some (iV x4), w3)) else none) else none)
   else
   if kd w1 a0 = 10 then
   if kd w1 (gv w1 a0 15) = 20 ∧ 0 ≤ (w32 (2 + a1)) ∧ (w32 (2 + a1)) < ln w1 (gv w1 a0 15) then
   if kd w1 a0 = 10 then
   if kd w1 a0 = 10 then
   if 600 < (w32 ((w32 ((gv w1 (gv w1 a0 15) (w32 (2 + a1))) + (gv w1 a0 5))) - (gv w1 a0 6))) then
    (if kd w1 a0 = 10 then
    bI (C 165 w1 [rV a0, iV 4]) (fun x6 w5 =>
    if x6 = 0 ∨ x6 = 1 then some (.inr (some (iV x6), w5)) else none) else none)
   else
   if kd w1 a0 = 10 then
   some (.inl (142, [some (rV a0), some (iV a1), some (iV (gv w1 a0 6))], [], w1)) else none else none else none else none else none) else none)
  else
  some (.inr (some (iV 1), w)) else none := by
  rfl
set_option maxRecDepth 100000 in
theorem eX12_readRow_142 (C : sC) (w : sW) (a0 a1 a2 : Int) : sg C mX12_readRow 2000 142 [some (rV a0), some (iV a1), some (iV a2)] [] w =
  if kd w a0 = 10 then
  if a2 < (gv w a0 5) then
   (if kd w a0 = 10 then
   if kd w a0 = 10 then
   if kd w (gv w a0 15) = 20 ∧ 0 ≤ (w32 (2 + a1)) ∧ (w32 (2 + a1)) < ln w (gv w a0 15) then
   if kd w a0 = 10 then
   if kd w (gv w a0 1) = 20 ∧ 0 ≤ a2 ∧ a2 < ln w (gv w a0 1) then
   if (gv w (gv w a0 1) a2) = 105 then
    (if (kd w (gv w a0 15) = 20 ∧ 32 ≤ (gv w a0 15)) ∧ 0 ≤ (w32 ((w32 (207 + (w32 (600 * a1)))) + (gv w (gv w a0 15) (w32 (2 + a1))))) ∧ (w32 ((w32 (207 + (w32 (600 * a1)))) + (gv w (gv w a0 15) (w32 (2 + a1))))) < ln w (gv w a0 15) then
    wl (sv w (gv w a0 15) (w32 ((w32 (207 + (w32 (600 * a1)))) + (gv w (gv w a0 15) (w32 (2 + a1))))) 1) (fun w1 =>
    if kd w1 a0 = 10 then
    if kd w1 (gv w1 a0 15) = 20 ∧ 0 ≤ (w32 (2 + a1)) ∧ (w32 (2 + a1)) < ln w1 (gv w1 a0 15) then
    if (kd w1 (gv w1 a0 15) = 20 ∧ 32 ≤ (gv w1 a0 15)) ∧ 0 ≤ (w32 (2 + a1)) ∧ (w32 (2 + a1)) < ln w1 (gv w1 a0 15) then
    wl (sv w1 (gv w1 a0 15) (w32 (2 + a1)) (w32 ((gv w1 (gv w1 a0 15) (w32 (2 + a1))) + 1))) (fun w2 =>
    some (.inl (142, [some (rV a0), some (iV a1), some (iV (w32 (a2 + 1)))], [], w2))) else none else none else none) else none)
   else
   if (kd w (gv w a0 15) = 20 ∧ 32 ≤ (gv w a0 15)) ∧ 0 ≤ (w32 ((w32 (207 + (w32 (600 * a1)))) + (gv w (gv w a0 15) (w32 (2 + a1))))) ∧ (w32 ((w32 (207 + (w32 (600 * a1)))) + (gv w (gv w a0 15) (w32 (2 + a1))))) < ln w (gv w a0 15) then
   wl (sv w (gv w a0 15) (w32 ((w32 (207 + (w32 (600 * a1)))) + (gv w (gv w a0 15) (w32 (2 + a1))))) 0) (fun w3 =>
   if kd w3 a0 = 10 then
   if kd w3 (gv w3 a0 15) = 20 ∧ 0 ≤ (w32 (2 + a1)) ∧ (w32 (2 + a1)) < ln w3 (gv w3 a0 15) then
   if (kd w3 (gv w3 a0 15) = 20 ∧ 32 ≤ (gv w3 a0 15)) ∧ 0 ≤ (w32 (2 + a1)) ∧ (w32 (2 + a1)) < ln w3 (gv w3 a0 15) then
   wl (sv w3 (gv w3 a0 15) (w32 (2 + a1)) (w32 ((gv w3 (gv w3 a0 15) (w32 (2 + a1))) + 1))) (fun w4 =>
   some (.inl (142, [some (rV a0), some (iV a1), some (iV (w32 (a2 + 1)))], [], w4))) else none else none else none) else none else none else none else none else none else none)
  else
  if kd w a0 = 10 then
  bN (C 159 w [rV a0]) (fun w5 =>
  some (.inl (86, [some (rV a0), some (iV a1), none], [], w5))) else none else none := by
  rfl
set_option maxRecDepth 100000 in
theorem eX12_readLetters_0 (C : sC) (w : sW) (a0 : Int) : sg C mX12_readLetters 2000 0 [some (rV a0), none] [] w =
  if kd w a0 = 10 then
  if (gv w a0 25) = 0 then
   (if kd w a0 = 10 ∧ ((1 : Int) = 0 ∨ (1 : Int) = 1) then
   wl (sv w a0 25 1) (fun w1 =>
   if kd w1 a0 = 10 then
   bN (C 159 w1 [rV a0]) (fun w2 =>
   some (.inl (22, [some (rV a0), none], [], w2))) else none) else none)
  else
  if kd w a0 = 10 then
  bI (C 165 w [rV a0, iV 3]) (fun x4 w3 =>
  if x4 = 0 ∨ x4 = 1 then some (.inr (some (iV x4), w3)) else none) else none else none := by
  rfl
set_option maxRecDepth 100000 in
theorem eX12_readLetters_22 (C : sC) (w : sW) (a0 : Int) : sg C mX12_readLetters 2000 22 [some (rV a0), none] [] w =
  if kd w a0 = 10 then
  if (gv w a0 7) = 2 then
   (if kd w a0 = 10 then
   bI (C 173 w [rV a0, iV 104]) (fun x2 w1 =>
   if x2 = 0 then
    (if kd w1 a0 = 10 then
    bI (C 165 w1 [rV a0, iV 2]) (fun x4 w3 =>
    if x4 = 0 ∨ x4 = 1 then some (.inr (some (iV x4), w3)) else none) else none)
   else
   if kd w1 a0 = 10 then
   if kd w1 (gv w1 a0 15) = 20 ∧ 0 ≤ (6 : Int) ∧ (6 : Int) < ln w1 (gv w1 a0 15) then
   if kd w1 a0 = 10 then
   if kd w1 a0 = 10 then
   if 200 < (w32 ((w32 ((gv w1 (gv w1 a0 15) 6) + (gv w1 a0 5))) - (gv w1 a0 6))) then
    (if kd w1 a0 = 10 then
    bI (C 165 w1 [rV a0, iV 4]) (fun x6 w5 =>
    if x6 = 0 ∨ x6 = 1 then some (.inr (some (iV x6), w5)) else none) else none)
   else
   if kd w1 a0 = 10 then
   some (.inl (79, [some (rV a0), some (iV (gv w1 a0 6))], [], w1)) else none else none else none else none else none) else none)
  else
  some (.inr (some (iV 1), w)) else none := by
  rfl
set_option maxRecDepth 100000 in
theorem eX12_readLetters_79 (C : sC) (w : sW) (a0 a1 : Int) : sg C mX12_readLetters 2000 79 [some (rV a0), some (iV a1)] [] w =
  if kd w a0 = 10 then
  if a1 < (gv w a0 5) then
   (if kd w a0 = 10 then
   if kd w a0 = 10 then
   if kd w (gv w a0 15) = 20 ∧ 0 ≤ (6 : Int) ∧ (6 : Int) < ln w (gv w a0 15) then
   if kd w a0 = 10 then
   if kd w (gv w a0 1) = 20 ∧ 0 ≤ a1 ∧ a1 < ln w (gv w a0 1) then
   if (kd w (gv w a0 15) = 20 ∧ 32 ≤ (gv w a0 15)) ∧ 0 ≤ (w32 (7 + (gv w (gv w a0 15) 6))) ∧ (w32 (7 + (gv w (gv w a0 15) 6))) < ln w (gv w a0 15) then
   wl (sv w (gv w a0 15) (w32 (7 + (gv w (gv w a0 15) 6))) (w32 ((gv w (gv w a0 1) a1) - 97))) (fun w1 =>
   if kd w1 a0 = 10 then
   if kd w1 (gv w1 a0 15) = 20 ∧ 0 ≤ (6 : Int) ∧ (6 : Int) < ln w1 (gv w1 a0 15) then
   if (kd w1 (gv w1 a0 15) = 20 ∧ 32 ≤ (gv w1 a0 15)) ∧ 0 ≤ (6 : Int) ∧ (6 : Int) < ln w1 (gv w1 a0 15) then
   wl (sv w1 (gv w1 a0 15) 6 (w32 ((gv w1 (gv w1 a0 15) 6) + 1))) (fun w2 =>
   some (.inl (79, [some (rV a0), some (iV (w32 (a1 + 1)))], [], w2))) else none else none else none) else none else none else none else none else none else none)
  else
  if kd w a0 = 10 then
  bN (C 159 w [rV a0]) (fun w3 =>
  some (.inl (22, [some (rV a0), none], [], w3))) else none else none := by
  rfl
set_option maxRecDepth 100000 in
theorem eX12_readLine_0 (C : sC) (w : sW) (a0 a1 : Int) : sg C mX12_readLine 2000 0 [some (rV a0), some (iV a1)] [] w =
  if kd w a0 = 10 then
  bI (C 162 w [rV a0, iV 0]) (fun x2 w1 =>
  if x2 = 0 then
   (if kd w1 a0 = 10 then
   bI (C 162 w1 [rV a0, iV 1]) (fun x4 w3 =>
   if x4 = 0 then
    (if kd w3 a0 = 10 then
    bI (C 162 w3 [rV a0, iV 2]) (fun x6 w5 =>
    if x6 = 0 then
     (if kd w5 a0 = 10 then
     bI (C 165 w5 [rV a0, iV 1]) (fun x8 w7 =>
     if x8 = 0 ∨ x8 = 1 then some (.inr (some (iV x8), w7)) else none) else none)
    else
    if kd w5 a0 = 10 then
    bI (C 176 w5 [rV a0]) (fun x10 w9 =>
    if x10 = 0 ∨ x10 = 1 then some (.inr (some (iV x10), w9)) else none) else none) else none)
   else
   if kd w3 a0 = 10 then
   bI (C 175 w3 [rV a0]) (fun x12 w11 =>
   if x12 = 0 ∨ x12 = 1 then some (.inr (some (iV x12), w11)) else none) else none) else none)
  else
  if kd w1 a0 = 10 then
  bI (C 172 w1 [rV a0, iV a1]) (fun x14 w13 =>
  if x14 = 0 ∨ x14 = 1 then some (.inr (some (iV x14), w13)) else none) else none) else none := by
  rfl
set_option maxRecDepth 100000 in
theorem eX12_room_0 (C : sC) (w : sW) (a0 : Int) : sg C mX12_room 2000 0 [some (rV a0), none, none] [] w =
  if kd w a0 = 10 then
  bN (C 168 w [rV a0, iV 900]) (fun w1 =>
  some (.inl (9, [some (rV a0), some (iV 0), none], [], w1))) else none := by
  rfl
set_option maxRecDepth 100000 in
theorem eX12_room_9 (C : sC) (w : sW) (a0 a1 : Int) : sg C mX12_room 2000 9 [some (rV a0), some (iV a1), none] [] w =
  if a1 < 2607 then
   (if kd w a0 = 10 then
   if (kd w (gv w a0 15) = 20 ∧ 32 ≤ (gv w a0 15)) ∧ 0 ≤ a1 ∧ a1 < ln w (gv w a0 15) then
   wl (sv w (gv w a0 15) a1 0) (fun w1 =>
   some (.inl (9, [some (rV a0), some (iV (w32 (a1 + 1))), none], [], w1))) else none else none)
  else
  if kd w a0 = 10 then
  if (kd w (gv w a0 15) = 20 ∧ 32 ≤ (gv w a0 15)) ∧ 0 ≤ (1 : Int) ∧ (1 : Int) < ln w (gv w a0 15) then
  wl (sv w (gv w a0 15) 1 8) (fun w2 =>
  if kd w2 a0 = 10 ∧ ((0 : Int) = 0 ∨ (0 : Int) = 1) then
  wl (sv w2 a0 25 0) (fun w3 =>
  some (.inl (44, [some (rV a0), some (iV 0), none], [], w3))) else none) else none else none := by
  rfl
set_option maxRecDepth 100000 in
theorem eX12_room_44 (C : sC) (w : sW) (a0 a1 : Int) : sg C mX12_room 2000 44 [some (rV a0), some (iV a1), none] [] w =
  if kd w a0 = 10 then
  if (gv w a0 7) = 0 then
   (some (.inl (81, [some (rV a0), some (iV a1), some (iV 0)], [], w)))
  else
  if kd w a0 = 10 then
  bI (C 177 w [rV a0, iV a1]) (fun x2 w1 =>
  if x2 = 0 then
   (if kd w1 a0 = 10 then
   some (.inr (some (iV (w32 ((-1) - (gv w1 a0 11)))), w1)) else none)
  else
  if kd w1 a0 = 10 then
  bI (C 167 w1 [rV a0]) (fun x4 w3 =>
  if x4 = 0 then
   (if kd w3 a0 = 10 then
   some (.inr (some (iV (w32 ((-1) - (gv w3 a0 11)))), w3)) else none)
  else
  some (.inl (44, [some (rV a0), some (iV (w32 (a1 + 1))), none], [], w3))) else none) else none else none := by
  rfl
set_option maxRecDepth 100000 in
theorem eX12_room_81 (C : sC) (w : sW) (a0 a1 a2 : Int) : sg C mX12_room 2000 81 [some (rV a0), some (iV a1), some (iV a2)] [] w =
  if a2 < 2607 then
   (if kd w a0 = 10 then
   if kd w a0 = 10 then
   if kd w (gv w a0 15) = 20 ∧ 0 ≤ a2 ∧ a2 < ln w (gv w a0 15) then
   if (kd w (gv w a0 14) = 20 ∧ 32 ≤ (gv w a0 14)) ∧ 0 ≤ a2 ∧ a2 < ln w (gv w a0 14) then
   wl (sv w (gv w a0 14) a2 (gv w (gv w a0 15) a2)) (fun w1 =>
   some (.inl (81, [some (rV a0), some (iV a1), some (iV (w32 (a2 + 1)))], [], w1))) else none else none else none else none)
  else
  some (.inl (108, [some (rV a0), some (iV a1), some (iV 0)], [], w)) := by
  rfl
set_option maxRecDepth 100000 in
theorem eX12_room_108 (C : sC) (w : sW) (a0 a1 a2 : Int) : sg C mX12_room 2000 108 [some (rV a0), some (iV a1), some (iV a2)] [] w =
  if a2 < 4 then
   (if kd w a0 = 10 then
   if kd w a0 = 10 then
   if kd w (gv w a0 21) = 22 ∧ 0 ≤ a2 ∧ a2 < ln w (gv w a0 21) then
   if kd w (gv w a0 20) = 22 ∧ 0 ≤ a2 ∧ a2 < ln w (gv w a0 20) then
   wl (sv w (gv w a0 20) a2 (gv w (gv w a0 21) a2)) (fun w1 =>
   some (.inl (108, [some (rV a0), some (iV a1), some (iV (w32 (a2 + 1)))], [], w1))) else none else none else none else none)
  else
  if kd w a0 = 10 then
  bN (C 170 w [rV a0]) (fun w2 =>
  if kd w2 a0 = 10 then
  wl (sv w2 a0 24 0) (fun w3 =>
  some (.inr (some (iV a1), w3))) else none) else none := by
  rfl
set_option maxRecDepth 100000 in
theorem eX12_fault_0 (C : sC) (w : sW) (a0 : Int) : sg C mX12_fault 2000 0 [some (rV a0)] [] w =
  if kd w a0 = 10 then
  wl (sv w a0 0 0) (fun w1 =>
  if kd w1 a0 = 10 then
  some (.inr (some (iV (gv w1 a0 10)), w1)) else none) else none := by
  rfl
set_option maxRecDepth 100000 in
theorem eX12_sizeOf_0 (C : sC) (w : sW) (a0 a1 : Int) : sg C mX12_sizeOf 2000 0 [some (rV a0), some (iV a1)] [] w =
  if kd w a0 = 10 then
  if kd w (gv w a0 14) = 20 ∧ 0 ≤ (w32 (2607 + a1)) ∧ (w32 (2607 + a1)) < ln w (gv w a0 14) then
  some (.inr (some (iV (gv w (gv w a0 14) (w32 (2607 + a1)))), w)) else none else none := by
  rfl
set_option maxRecDepth 100000 in
theorem eX12_bitOf_0 (C : sC) (w : sW) (a0 a1 a2 : Int) : sg C mX12_bitOf 2000 0 [some (rV a0), some (iV a1), some (iV a2)] [] w =
  if kd w a0 = 10 then
  if kd w (gv w a0 14) = 20 ∧ 0 ≤ (w32 ((w32 (3420 + (w32 (600 * a1)))) + a2)) ∧ (w32 ((w32 (3420 + (w32 (600 * a1)))) + a2)) < ln w (gv w a0 14) then
  some (.inr (some (iV (gv w (gv w a0 14) (w32 ((w32 (3420 + (w32 (600 * a1)))) + a2)))), w)) else none else none := by
  rfl
set_option maxRecDepth 100000 in
theorem eX12_leafAt_0 (C : sC) (w : sW) (a0 a1 a2 : Int) : sg C mX12_leafAt 2000 0 [some (rV a0), some (iV a1), some (iV a2)] [] w =
  some (.inr (some (iV (w32 ((w32 (2816 + (w32 (151 * a1)))) + a2))), w)) := by
  rfl
set_option maxRecDepth 100000 in
theorem eX12_leafOf_0 (C : sC) (w : sW) (a0 a1 a2 : Int) : sg C mX12_leafOf 2000 0 [some (rV a0), some (iV a1), some (iV a2), none, none] [] w =
  if kd w a0 = 10 then
  if kd w a0 = 10 then
  bI (C 182 w [rV a0, iV a1, iV 0]) (fun x2 w1 =>
  if kd w1 (gv w a0 14) = 20 ∧ 0 ≤ x2 ∧ x2 < ln w1 (gv w a0 14) then
  some (.inl (15, [some (rV a0), some (iV a1), some (iV a2), some (iV 0), some (iV (gv w1 (gv w a0 14) x2))], [], w1)) else none) else none else none := by
  rfl
set_option maxRecDepth 100000 in
theorem eX12_leafOf_15 (C : sC) (w : sW) (a0 a1 a2 a3 a4 : Int) : sg C mX12_leafOf 2000 15 [some (rV a0), some (iV a1), some (iV a2), some (iV a3), some (iV a4)] [] w =
  if a2 < a4 then
   (some (.inr (some (iV a3), w)))
  else
  if kd w a0 = 10 then
  if kd w a0 = 10 then
  bI (C 182 w [rV a0, iV a1, iV (w32 (a3 + 1))]) (fun x2 w1 =>
  if kd w1 (gv w a0 14) = 20 ∧ 0 ≤ x2 ∧ x2 < ln w1 (gv w a0 14) then
  some (.inl (15, [some (rV a0), some (iV a1), some (iV a2), some (iV (w32 (a3 + 1))), some (iV (w32 (a4 + (gv w1 (gv w a0 14) x2))))], [], w1)) else none) else none else none := by
  rfl
set_option maxRecDepth 100000 in
theorem eX12_splitLeaf_0 (C : sC) (w : sW) (a0 a1 a2 : Int) : sg C mX12_splitLeaf 2000 0 [some (rV a0), some (iV a1), some (iV a2), none, none] [] w =
  if kd w a0 = 10 then
  if kd w a0 = 10 then
  bI (C 182 w [rV a0, iV a1, iV a2]) (fun x2 w1 =>
  if kd w1 (gv w a0 14) = 20 ∧ 0 ≤ x2 ∧ x2 < ln w1 (gv w a0 14) then
  if kd w1 a0 = 10 then
  if kd w1 (gv w1 a0 14) = 20 ∧ 0 ≤ (w32 (2611 + a1)) ∧ (w32 (2611 + a1)) < ln w1 (gv w1 a0 14) then
  some (.inl (24, [some (rV a0), some (iV a1), some (iV a2), some (iV (gv w1 (gv w a0 14) x2)), some (iV (gv w1 (gv w1 a0 14) (w32 (2611 + a1))))], [], w1)) else none else none else none) else none else none := by
  rfl
set_option maxRecDepth 100000 in
theorem eX12_splitLeaf_24 (C : sC) (w : sW) (a0 a1 a2 a3 a4 : Int) : sg C mX12_splitLeaf 2000 24 [some (rV a0), some (iV a1), some (iV a2), some (iV a3), some (iV a4)] [] w =
  if (w32 (a2 + 1)) < a4 then
   (if kd w a0 = 10 then
   if kd w a0 = 10 then
   bI (C 182 w [rV a0, iV a1, iV a4]) (fun x2 w1 =>
   if kd w1 a0 = 10 then
   if kd w1 a0 = 10 then
   bI (C 182 w1 [rV a0, iV a1, iV (w32 (a4 - 1))]) (fun x4 w3 =>
   if kd w3 (gv w1 a0 14) = 20 ∧ 0 ≤ x4 ∧ x4 < ln w3 (gv w1 a0 14) then
   if (kd w3 (gv w a0 14) = 20 ∧ 32 ≤ (gv w a0 14)) ∧ 0 ≤ x2 ∧ x2 < ln w3 (gv w a0 14) then
   wl (sv w3 (gv w a0 14) x2 (gv w3 (gv w1 a0 14) x4)) (fun w5 =>
   some (.inl (24, [some (rV a0), some (iV a1), some (iV a2), some (iV a3), some (iV (w32 (a4 + (-1))))], [], w5))) else none else none) else none else none) else none else none)
  else
  if kd w a0 = 10 then
  if kd w a0 = 10 then
  bI (C 182 w [rV a0, iV a1, iV a2]) (fun x7 w6 =>
  if (2 : Int) = 0 then none else
  if (kd w6 (gv w a0 14) = 20 ∧ 32 ≤ (gv w a0 14)) ∧ 0 ≤ x7 ∧ x7 < ln w6 (gv w a0 14) then
  wl (sv w6 (gv w a0 14) x7 (w32 (Int.tdiv (w32 (a3 + 1)) 2))) (fun w8 =>
  if kd w8 a0 = 10 then
  if kd w8 a0 = 10 then
  bI (C 182 w8 [rV a0, iV a1, iV (w32 (a2 + 1))]) (fun x10 w9 =>
  if (2 : Int) = 0 then none else
  if (kd w9 (gv w8 a0 14) = 20 ∧ 32 ≤ (gv w8 a0 14)) ∧ 0 ≤ x10 ∧ x10 < ln w9 (gv w8 a0 14) then
  wl (sv w9 (gv w8 a0 14) x10 (w32 (Int.tdiv a3 2))) (fun w11 =>
  if kd w11 a0 = 10 then
  if kd w11 (gv w11 a0 14) = 20 ∧ 0 ≤ (w32 (2611 + a1)) ∧ (w32 (2611 + a1)) < ln w11 (gv w11 a0 14) then
  if (kd w11 (gv w11 a0 14) = 20 ∧ 32 ≤ (gv w11 a0 14)) ∧ 0 ≤ (w32 (2611 + a1)) ∧ (w32 (2611 + a1)) < ln w11 (gv w11 a0 14) then
  wl (sv w11 (gv w11 a0 14) (w32 (2611 + a1)) (w32 ((gv w11 (gv w11 a0 14) (w32 (2611 + a1))) + 1))) (fun w12 =>
  some (.inr (none, w12))) else none else none else none) else none) else none else none) else none) else none else none := by
  rfl
set_option maxRecDepth 100000 in
theorem eX12_putBit_0 (C : sC) (w : sW) (a0 a1 a2 a3 : Int) : sg C mX12_putBit 2000 0 [some (rV a0), some (iV a1), some (iV a2), some (iV a3), none, none] [] w =
  if kd w a0 = 10 then
  bI (C 180 w [rV a0, iV a1]) (fun x2 w1 =>
  some (.inl (18, [some (rV a0), some (iV a1), some (iV a2), some (iV a3), some (iV (w32 (3420 + (w32 (600 * a1))))), some (iV x2)], [], w1))) else none := by
  rfl
set_option maxRecDepth 100000 in
theorem eX12_putBit_18 (C : sC) (w : sW) (a0 a1 a2 a3 a4 a5 : Int) : sg C mX12_putBit 2000 18 [some (rV a0), some (iV a1), some (iV a2), some (iV a3), some (iV a4), some (iV a5)] [] w =
  if a2 < a5 then
   (if kd w a0 = 10 then
   if kd w a0 = 10 then
   if kd w (gv w a0 14) = 20 ∧ 0 ≤ (w32 ((w32 (a4 + a5)) - 1)) ∧ (w32 ((w32 (a4 + a5)) - 1)) < ln w (gv w a0 14) then
   if (kd w (gv w a0 14) = 20 ∧ 32 ≤ (gv w a0 14)) ∧ 0 ≤ (w32 (a4 + a5)) ∧ (w32 (a4 + a5)) < ln w (gv w a0 14) then
   wl (sv w (gv w a0 14) (w32 (a4 + a5)) (gv w (gv w a0 14) (w32 ((w32 (a4 + a5)) - 1)))) (fun w1 =>
   some (.inl (18, [some (rV a0), some (iV a1), some (iV a2), some (iV a3), some (iV a4), some (iV (w32 (a5 + (-1))))], [], w1))) else none else none else none else none)
  else
  if kd w a0 = 10 then
  if (kd w (gv w a0 14) = 20 ∧ 32 ≤ (gv w a0 14)) ∧ 0 ≤ (w32 (a4 + a2)) ∧ (w32 (a4 + a2)) < ln w (gv w a0 14) then
  wl (sv w (gv w a0 14) (w32 (a4 + a2)) a3) (fun w2 =>
  if kd w2 a0 = 10 then
  if kd w2 (gv w2 a0 14) = 20 ∧ 0 ≤ (w32 (2611 + a1)) ∧ (w32 (2611 + a1)) < ln w2 (gv w2 a0 14) then
  if (gv w2 (gv w2 a0 14) (w32 (2611 + a1))) = 0 then
   (if kd w2 a0 = 10 then
   if (kd w2 (gv w2 a0 14) = 20 ∧ 32 ≤ (gv w2 a0 14)) ∧ 0 ≤ (w32 (2611 + a1)) ∧ (w32 (2611 + a1)) < ln w2 (gv w2 a0 14) then
   wl (sv w2 (gv w2 a0 14) (w32 (2611 + a1)) 1) (fun w3 =>
   if a2 = 0 then
    (some (.inl (102, [some (rV a0), some (iV a1), none, none, none, none], [iV 0], w3)))
   else
   if kd w3 a0 = 10 then
   bI (C 183 w3 [rV a0, iV a1, iV (w32 (a2 - 1))]) (fun x5 w4 =>
   some (.inl (102, [some (rV a0), some (iV a1), none, none, none, none], [iV x5], w4))) else none) else none else none)
  else
  if a2 = 0 then
   (some (.inl (102, [some (rV a0), some (iV a1), none, none, none, none], [iV 0], w2)))
  else
  if kd w2 a0 = 10 then
  bI (C 183 w2 [rV a0, iV a1, iV (w32 (a2 - 1))]) (fun x7 w6 =>
  some (.inl (102, [some (rV a0), some (iV a1), none, none, none, none], [iV x7], w6))) else none else none else none) else none else none := by
  rfl
set_option maxRecDepth 100000 in
theorem eX12_putBit_102 (C : sC) (w : sW) (a0 a1 b0 : Int) : sg C mX12_putBit 2000 102 [some (rV a0), some (iV a1), none, none, none, none] [iV b0] w =
  if kd w a0 = 10 then
  if kd w (gv w a0 14) = 20 ∧ 0 ≤ (w32 (2607 + a1)) ∧ (w32 (2607 + a1)) < ln w (gv w a0 14) then
  if (kd w (gv w a0 14) = 20 ∧ 32 ≤ (gv w a0 14)) ∧ 0 ≤ (w32 (2607 + a1)) ∧ (w32 (2607 + a1)) < ln w (gv w a0 14) then
  wl (sv w (gv w a0 14) (w32 (2607 + a1)) (w32 ((gv w (gv w a0 14) (w32 (2607 + a1))) + 1))) (fun w1 =>
  if kd w1 a0 = 10 then
  if kd w1 a0 = 10 then
  bI (C 182 w1 [rV a0, iV a1, iV b0]) (fun x3 w2 =>
  if kd w2 (gv w1 a0 14) = 20 ∧ 0 ≤ x3 ∧ x3 < ln w2 (gv w1 a0 14) then
  if (kd w2 (gv w1 a0 14) = 20 ∧ 32 ≤ (gv w1 a0 14)) ∧ 0 ≤ x3 ∧ x3 < ln w2 (gv w1 a0 14) then
  wl (sv w2 (gv w1 a0 14) x3 (w32 ((gv w2 (gv w1 a0 14) x3) + 1))) (fun w4 =>
  if kd w4 a0 = 10 then
  if kd w4 a0 = 10 then
  bI (C 182 w4 [rV a0, iV a1, iV b0]) (fun x6 w5 =>
  if kd w5 (gv w4 a0 14) = 20 ∧ 0 ≤ x6 ∧ x6 < ln w5 (gv w4 a0 14) then
  if kd w5 a0 = 10 then
  if kd w5 (gv w5 a0 14) = 20 ∧ 0 ≤ (1 : Int) ∧ (1 : Int) < ln w5 (gv w5 a0 14) then
  if (w32 (2 * (gv w5 (gv w5 a0 14) 1))) < (gv w5 (gv w4 a0 14) x6) then
   (if kd w5 a0 = 10 then
   bN (C 184 w5 [rV a0, iV a1, iV b0]) (fun w7 =>
   some (.inr (none, w7))) else none)
  else
  some (.inr (none, w5)) else none else none else none) else none else none) else none else none) else none else none) else none else none else none := by
  rfl
set_option maxRecDepth 100000 in
theorem eX12_joinLeaves_0 (C : sC) (w : sW) (a0 a1 a2 : Int) : sg C mX12_joinLeaves 2000 0 [some (rV a0), some (iV a1), some (iV a2), none] [] w =
  if kd w a0 = 10 then
  if kd w a0 = 10 then
  bI (C 182 w [rV a0, iV a1, iV a2]) (fun x2 w1 =>
  if kd w1 (gv w a0 14) = 20 ∧ 0 ≤ x2 ∧ x2 < ln w1 (gv w a0 14) then
  if kd w1 a0 = 10 then
  if kd w1 a0 = 10 then
  bI (C 182 w1 [rV a0, iV a1, iV (w32 (a2 + 1))]) (fun x4 w3 =>
  if kd w3 (gv w1 a0 14) = 20 ∧ 0 ≤ x4 ∧ x4 < ln w3 (gv w1 a0 14) then
  if (kd w3 (gv w a0 14) = 20 ∧ 32 ≤ (gv w a0 14)) ∧ 0 ≤ x2 ∧ x2 < ln w3 (gv w a0 14) then
  wl (sv w3 (gv w a0 14) x2 (w32 ((gv w1 (gv w a0 14) x2) + (gv w3 (gv w1 a0 14) x4)))) (fun w5 =>
  if kd w5 a0 = 10 then
  if kd w5 (gv w5 a0 14) = 20 ∧ 0 ≤ (w32 (2611 + a1)) ∧ (w32 (2611 + a1)) < ln w5 (gv w5 a0 14) then
  if (kd w5 (gv w5 a0 14) = 20 ∧ 32 ≤ (gv w5 a0 14)) ∧ 0 ≤ (w32 (2611 + a1)) ∧ (w32 (2611 + a1)) < ln w5 (gv w5 a0 14) then
  wl (sv w5 (gv w5 a0 14) (w32 (2611 + a1)) (w32 ((gv w5 (gv w5 a0 14) (w32 (2611 + a1))) - 1))) (fun w6 =>
  some (.inl (45, [some (rV a0), some (iV a1), some (iV a2), some (iV (w32 (a2 + 1)))], [], w6))) else none else none else none) else none else none) else none else none else none) else none else none := by
  rfl
set_option maxRecDepth 100000 in
theorem eX12_joinLeaves_45 (C : sC) (w : sW) (a0 a1 a2 a3 : Int) : sg C mX12_joinLeaves 2000 45 [some (rV a0), some (iV a1), some (iV a2), some (iV a3)] [] w =
  if kd w a0 = 10 then
  if kd w (gv w a0 14) = 20 ∧ 0 ≤ (w32 (2611 + a1)) ∧ (w32 (2611 + a1)) < ln w (gv w a0 14) then
  if a3 < (gv w (gv w a0 14) (w32 (2611 + a1))) then
   (if kd w a0 = 10 then
   if kd w a0 = 10 then
   bI (C 182 w [rV a0, iV a1, iV a3]) (fun x2 w1 =>
   if kd w1 a0 = 10 then
   if kd w1 a0 = 10 then
   bI (C 182 w1 [rV a0, iV a1, iV (w32 (a3 + 1))]) (fun x4 w3 =>
   if kd w3 (gv w1 a0 14) = 20 ∧ 0 ≤ x4 ∧ x4 < ln w3 (gv w1 a0 14) then
   if (kd w3 (gv w a0 14) = 20 ∧ 32 ≤ (gv w a0 14)) ∧ 0 ≤ x2 ∧ x2 < ln w3 (gv w a0 14) then
   wl (sv w3 (gv w a0 14) x2 (gv w3 (gv w1 a0 14) x4)) (fun w5 =>
   some (.inl (45, [some (rV a0), some (iV a1), some (iV a2), some (iV (w32 (a3 + 1)))], [], w5))) else none else none) else none else none) else none else none)
  else
  if kd w a0 = 10 then
  if kd w a0 = 10 then
  if kd w (gv w a0 14) = 20 ∧ 0 ≤ (w32 (2611 + a1)) ∧ (w32 (2611 + a1)) < ln w (gv w a0 14) then
  if kd w a0 = 10 then
  bI (C 182 w [rV a0, iV a1, iV (gv w (gv w a0 14) (w32 (2611 + a1)))]) (fun x7 w6 =>
  if (kd w6 (gv w a0 14) = 20 ∧ 32 ≤ (gv w a0 14)) ∧ 0 ≤ x7 ∧ x7 < ln w6 (gv w a0 14) then
  wl (sv w6 (gv w a0 14) x7 0) (fun w8 =>
  if kd w8 a0 = 10 then
  if kd w8 a0 = 10 then
  bI (C 182 w8 [rV a0, iV a1, iV a2]) (fun x10 w9 =>
  if kd w9 (gv w8 a0 14) = 20 ∧ 0 ≤ x10 ∧ x10 < ln w9 (gv w8 a0 14) then
  if kd w9 a0 = 10 then
  if kd w9 (gv w9 a0 14) = 20 ∧ 0 ≤ (1 : Int) ∧ (1 : Int) < ln w9 (gv w9 a0 14) then
  if (w32 (2 * (gv w9 (gv w9 a0 14) 1))) < (gv w9 (gv w8 a0 14) x10) then
   (if kd w9 a0 = 10 then
   bN (C 184 w9 [rV a0, iV a1, iV a2]) (fun w11 =>
   some (.inr (none, w11))) else none)
  else
  some (.inr (none, w9)) else none else none else none) else none else none) else none) else none else none else none else none else none else none := by
  rfl
set_option maxRecDepth 100000 in
theorem eX12_takeBit_0 (C : sC) (w : sW) (a0 a1 a2 : Int) : sg C mX12_takeBit 2000 0 [some (rV a0), some (iV a1), some (iV a2), none, none, none] [] w =
  if kd w a0 = 10 then
  bI (C 183 w [rV a0, iV a1, iV a2]) (fun x2 w1 =>
  if kd w1 a0 = 10 then
  if kd w1 (gv w1 a0 14) = 20 ∧ 0 ≤ (w32 (2607 + a1)) ∧ (w32 (2607 + a1)) < ln w1 (gv w1 a0 14) then
  if (kd w1 (gv w1 a0 14) = 20 ∧ 32 ≤ (gv w1 a0 14)) ∧ 0 ≤ (w32 (2607 + a1)) ∧ (w32 (2607 + a1)) < ln w1 (gv w1 a0 14) then
  wl (sv w1 (gv w1 a0 14) (w32 (2607 + a1)) (w32 ((gv w1 (gv w1 a0 14) (w32 (2607 + a1))) - 1))) (fun w3 =>
  some (.inl (35, [some (rV a0), some (iV a1), none, some (iV (w32 (3420 + (w32 (600 * a1))))), some (iV x2), some (iV a2)], [], w3))) else none else none else none) else none := by
  rfl
set_option maxRecDepth 100000 in
theorem eX12_takeBit_35 (C : sC) (w : sW) (a0 a1 a3 a4 a5 : Int) : sg C mX12_takeBit 2000 35 [some (rV a0), some (iV a1), none, some (iV a3), some (iV a4), some (iV a5)] [] w =
  if kd w a0 = 10 then
  bI (C 180 w [rV a0, iV a1]) (fun x2 w1 =>
  if a5 < x2 then
   (if kd w1 a0 = 10 then
   if kd w1 a0 = 10 then
   if kd w1 (gv w1 a0 14) = 20 ∧ 0 ≤ (w32 ((w32 (a3 + a5)) + 1)) ∧ (w32 ((w32 (a3 + a5)) + 1)) < ln w1 (gv w1 a0 14) then
   if (kd w1 (gv w1 a0 14) = 20 ∧ 32 ≤ (gv w1 a0 14)) ∧ 0 ≤ (w32 (a3 + a5)) ∧ (w32 (a3 + a5)) < ln w1 (gv w1 a0 14) then
   wl (sv w1 (gv w1 a0 14) (w32 (a3 + a5)) (gv w1 (gv w1 a0 14) (w32 ((w32 (a3 + a5)) + 1)))) (fun w3 =>
   some (.inl (35, [some (rV a0), some (iV a1), none, some (iV a3), some (iV a4), some (iV (w32 (a5 + 1)))], [], w3))) else none else none else none else none)
  else
  if kd w1 a0 = 10 then
  if kd w1 a0 = 10 then
  bI (C 180 w1 [rV a0, iV a1]) (fun x5 w4 =>
  if (kd w4 (gv w1 a0 14) = 20 ∧ 32 ≤ (gv w1 a0 14)) ∧ 0 ≤ (w32 (a3 + x5)) ∧ (w32 (a3 + x5)) < ln w4 (gv w1 a0 14) then
  wl (sv w4 (gv w1 a0 14) (w32 (a3 + x5)) 0) (fun w6 =>
  if kd w6 a0 = 10 then
  if kd w6 a0 = 10 then
  bI (C 182 w6 [rV a0, iV a1, iV a4]) (fun x8 w7 =>
  if kd w7 (gv w6 a0 14) = 20 ∧ 0 ≤ x8 ∧ x8 < ln w7 (gv w6 a0 14) then
  if (kd w7 (gv w6 a0 14) = 20 ∧ 32 ≤ (gv w6 a0 14)) ∧ 0 ≤ x8 ∧ x8 < ln w7 (gv w6 a0 14) then
  wl (sv w7 (gv w6 a0 14) x8 (w32 ((gv w7 (gv w6 a0 14) x8) - 1))) (fun w9 =>
  if kd w9 a0 = 10 then
  if kd w9 (gv w9 a0 14) = 20 ∧ 0 ≤ (w32 (2611 + a1)) ∧ (w32 (2611 + a1)) < ln w9 (gv w9 a0 14) then
  if (gv w9 (gv w9 a0 14) (w32 (2611 + a1))) = 1 then
   (if kd w9 a0 = 10 then
   if kd w9 a0 = 10 then
   bI (C 182 w9 [rV a0, iV a1, iV a4]) (fun x11 w10 =>
   if kd w10 (gv w9 a0 14) = 20 ∧ 0 ≤ x11 ∧ x11 < ln w10 (gv w9 a0 14) then
   if (gv w10 (gv w9 a0 14) x11) = 0 then
    (if kd w10 a0 = 10 then
    if (kd w10 (gv w10 a0 14) = 20 ∧ 32 ≤ (gv w10 a0 14)) ∧ 0 ≤ (w32 (2611 + a1)) ∧ (w32 (2611 + a1)) < ln w10 (gv w10 a0 14) then
    wl (sv w10 (gv w10 a0 14) (w32 (2611 + a1)) 0) (fun w12 =>
    some (.inr (none, w12))) else none else none)
   else
   some (.inr (none, w10)) else none) else none else none)
  else
  if kd w9 a0 = 10 then
  if kd w9 a0 = 10 then
  bI (C 182 w9 [rV a0, iV a1, iV a4]) (fun x14 w13 =>
  if kd w13 (gv w9 a0 14) = 20 ∧ 0 ≤ x14 ∧ x14 < ln w13 (gv w9 a0 14) then
  if kd w13 a0 = 10 then
  if kd w13 (gv w13 a0 14) = 20 ∧ 0 ≤ (1 : Int) ∧ (1 : Int) < ln w13 (gv w13 a0 14) then
  if (gv w13 (gv w9 a0 14) x14) < (gv w13 (gv w13 a0 14) 1) then
   (if kd w13 a0 = 10 then
   if kd w13 (gv w13 a0 14) = 20 ∧ 0 ≤ (w32 (2611 + a1)) ∧ (w32 (2611 + a1)) < ln w13 (gv w13 a0 14) then
   if a4 < (w32 ((gv w13 (gv w13 a0 14) (w32 (2611 + a1))) - 1)) then
    (if kd w13 a0 = 10 then
    bN (C 186 w13 [rV a0, iV a1, iV a4]) (fun w15 =>
    some (.inr (none, w15))) else none)
   else
   if kd w13 a0 = 10 then
   bN (C 186 w13 [rV a0, iV a1, iV (w32 (a4 - 1))]) (fun w16 =>
   some (.inr (none, w16))) else none else none else none)
  else
  some (.inr (none, w13)) else none else none else none) else none else none else none else none) else none else none) else none else none) else none) else none else none) else none := by
  rfl
set_option maxRecDepth 100000 in
theorem eX12_isRow_0 (C : sC) (w : sW) (a0 a1 : Int) : sg C mX12_isRow 2000 0 [some (rV a0), some (iV a1)] [] w =
  if kd w a0 = 10 then
  if kd w (gv w a0 14) = 20 ∧ 0 ≤ (0 : Int) ∧ (0 : Int) < ln w (gv w a0 14) then
  bI (C 155 w [iV a1, iV 0, iV (w32 ((gv w (gv w a0 14) 0) - 1))]) (fun x2 w1 =>
  if x2 = 0 ∨ x2 = 1 then some (.inr (some (iV x2), w1)) else none) else none else none := by
  rfl
set_option maxRecDepth 100000 in
theorem eX12_isBit_0 (C : sC) (w : sW) (a0 a1 : Int) : sg C mX12_isBit 2000 0 [some (rV a0), some (iV a1)] [] w =
  bI (C 155 w [iV a1, iV 0, iV 1]) (fun x2 w1 =>
  if x2 = 0 ∨ x2 = 1 then some (.inr (some (iV x2), w1)) else none) := by
  rfl
set_option maxRecDepth 100000 in
theorem eX12_isThere_0 (C : sC) (w : sW) (a0 a1 a2 : Int) : sg C mX12_isThere 2000 0 [some (rV a0), some (iV a1), some (iV a2)] [] w =
  if kd w a0 = 10 then
  bI (C 180 w [rV a0, iV a1]) (fun x2 w1 =>
  bI (C 155 w1 [iV a2, iV 0, iV (w32 (x2 - 1))]) (fun x4 w3 =>
  if x4 = 0 ∨ x4 = 1 then some (.inr (some (iV x4), w3)) else none)) else none := by
  rfl
set_option maxRecDepth 100000 in
theorem eX12_onesIn_0 (C : sC) (w : sW) (a0 a1 a2 a3 : Int) : sg C mX12_onesIn 2000 0 [some (rV a0), some (iV a1), some (iV a2), some (iV a3), none, none] [] w =
  some (.inl (6, [some (rV a0), some (iV a1), none, some (iV a3), some (iV 0), some (iV a2)], [], w)) := by
  rfl
set_option maxRecDepth 100000 in
theorem eX12_onesIn_6 (C : sC) (w : sW) (a0 a1 a3 a4 a5 : Int) : sg C mX12_onesIn 2000 6 [some (rV a0), some (iV a1), none, some (iV a3), some (iV a4), some (iV a5)] [] w =
  if a5 < a3 then
   (if kd w a0 = 10 then
   bI (C 181 w [rV a0, iV a1, iV a5]) (fun x2 w1 =>
   some (.inl (6, [some (rV a0), some (iV a1), none, some (iV a3), some (iV (w32 (a4 + x2))), some (iV (w32 (a5 + 1)))], [], w1))) else none)
  else
  some (.inr (some (iV a4), w)) := by
  rfl
set_option maxRecDepth 100000 in
theorem eX12_size_0 (C : sC) (w : sW) (a0 a1 : Int) : sg C mX12_size 2000 0 [some (rV a0), some (iV a1)] [] w =
  if kd w a0 = 10 then
  wl (sv w a0 0 0) (fun w1 =>
  if kd w1 a0 = 10 then
  bI (C 188 w1 [rV a0, iV a1]) (fun x3 w2 =>
  if x3 = 0 then
   (some (.inr (some (iV (-1)), w2)))
  else
  if kd w2 a0 = 10 then
  bI (C 180 w2 [rV a0, iV a1]) (fun x5 w4 =>
  some (.inr (some (iV x5), w4))) else none) else none) else none := by
  rfl
set_option maxRecDepth 100000 in
theorem eX12_bit_0 (C : sC) (w : sW) (a0 a1 a2 : Int) : sg C mX12_bit 2000 0 [some (rV a0), some (iV a1), some (iV a2)] [] w =
  if kd w a0 = 10 then
  wl (sv w a0 0 0) (fun w1 =>
  if kd w1 a0 = 10 then
  bI (C 188 w1 [rV a0, iV a1]) (fun x3 w2 =>
  if x3 = 0 then
   (some (.inr (some (iV (-1)), w2)))
  else
  if kd w2 a0 = 10 then
  bI (C 190 w2 [rV a0, iV a1, iV a2]) (fun x5 w4 =>
  if x5 = 0 then
   (some (.inr (some (iV (-1)), w4)))
  else
  if kd w4 a0 = 10 then
  bI (C 181 w4 [rV a0, iV a1, iV a2]) (fun x7 w6 =>
  some (.inr (some (iV x7), w6))) else none) else none) else none) else none := by
  rfl
set_option maxRecDepth 100000 in
theorem eX12_rank_0 (C : sC) (w : sW) (a0 a1 a2 a3 : Int) : sg C mX12_rank 2000 0 [some (rV a0), some (iV a1), some (iV a2), some (iV a3), none] [] w =
  if kd w a0 = 10 then
  wl (sv w a0 0 0) (fun w1 =>
  if kd w1 a0 = 10 then
  bI (C 188 w1 [rV a0, iV a1]) (fun x3 w2 =>
  if x3 = 0 then
   (some (.inr (some (iV (-1)), w2)))
  else
  if kd w2 a0 = 10 then
  bI (C 189 w2 [rV a0, iV a3]) (fun x5 w4 =>
  if x5 = 0 then
   (some (.inr (some (iV (-1)), w4)))
  else
  if kd w4 a0 = 10 then
  bI (C 180 w4 [rV a0, iV a1]) (fun x7 w6 =>
  bI (C 155 w6 [iV a2, iV 0, iV x7]) (fun x9 w8 =>
  if x9 = 0 then
   (some (.inr (some (iV (-1)), w8)))
  else
  if kd w8 a0 = 10 then
  bI (C 191 w8 [rV a0, iV a1, iV 0, iV a2]) (fun x11 w10 =>
  if a3 = 1 then
   (some (.inr (some (iV x11), w10)))
  else
  some (.inr (some (iV (w32 (a2 - x11))), w10))) else none)) else none) else none) else none) else none := by
  rfl
set_option maxRecDepth 100000 in
theorem eX12_select_0 (C : sC) (w : sW) (a0 a1 a2 a3 : Int) : sg C mX12_select 2000 0 [some (rV a0), some (iV a1), some (iV a2), some (iV a3), none, none] [] w =
  if kd w a0 = 10 then
  wl (sv w a0 0 0) (fun w1 =>
  if kd w1 a0 = 10 then
  bI (C 188 w1 [rV a0, iV a1]) (fun x3 w2 =>
  if x3 = 0 then
   (some (.inr (some (iV (-1)), w2)))
  else
  if kd w2 a0 = 10 then
  bI (C 189 w2 [rV a0, iV a3]) (fun x5 w4 =>
  if x5 = 0 then
   (some (.inr (some (iV (-1)), w4)))
  else
  if a2 < 0 then
   (some (.inr (some (iV (-1)), w4)))
  else
  some (.inl (33, [some (rV a0), some (iV a1), some (iV a2), some (iV a3), some (iV 0), some (iV 0)], [], w4))) else none) else none) else none := by
  rfl
set_option maxRecDepth 100000 in
theorem eX12_select_33 (C : sC) (w : sW) (a0 a1 a2 a3 a4 a5 : Int) : sg C mX12_select 2000 33 [some (rV a0), some (iV a1), some (iV a2), some (iV a3), some (iV a4), some (iV a5)] [] w =
  if kd w a0 = 10 then
  bI (C 180 w [rV a0, iV a1]) (fun x2 w1 =>
  if a5 < x2 then
   (if kd w1 a0 = 10 then
   bI (C 181 w1 [rV a0, iV a1, iV a5]) (fun x4 w3 =>
   if x4 = a3 then
    (if a4 = a2 then
     (some (.inr (some (iV a5), w3)))
    else
    some (.inl (33, [some (rV a0), some (iV a1), some (iV a2), some (iV a3), some (iV (w32 (a4 + 1))), some (iV (w32 (a5 + 1)))], [], w3)))
   else
   some (.inl (33, [some (rV a0), some (iV a1), some (iV a2), some (iV a3), some (iV a4), some (iV (w32 (a5 + 1)))], [], w3))) else none)
  else
  some (.inr (some (iV (-1)), w1))) else none := by
  rfl
set_option maxRecDepth 100000 in
theorem eX12_find_0 (C : sC) (w : sW) (a0 a1 a2 a3 : Int) : sg C mX12_find 2000 0 [some (rV a0), some (iV a1), some (iV a2), some (iV a3), none] [] w =
  if kd w a0 = 10 then
  wl (sv w a0 0 0) (fun w1 =>
  if kd w1 a0 = 10 then
  bI (C 188 w1 [rV a0, iV a1]) (fun x3 w2 =>
  if x3 = 0 then
   (some (.inr (some (iV (-1)), w2)))
  else
  if kd w2 a0 = 10 then
  bI (C 189 w2 [rV a0, iV a3]) (fun x5 w4 =>
  if x5 = 0 then
   (some (.inr (some (iV (-1)), w4)))
  else
  if a2 < 0 then
   (some (.inr (some (iV (-1)), w4)))
  else
  some (.inl (30, [some (rV a0), some (iV a1), none, some (iV a3), some (iV a2)], [], w4))) else none) else none) else none := by
  rfl
set_option maxRecDepth 100000 in
theorem eX12_find_30 (C : sC) (w : sW) (a0 a1 a3 a4 : Int) : sg C mX12_find 2000 30 [some (rV a0), some (iV a1), none, some (iV a3), some (iV a4)] [] w =
  if kd w a0 = 10 then
  bI (C 180 w [rV a0, iV a1]) (fun x2 w1 =>
  if a4 < x2 then
   (if kd w1 a0 = 10 then
   bI (C 181 w1 [rV a0, iV a1, iV a4]) (fun x4 w3 =>
   if x4 = a3 then
    (some (.inr (some (iV a4), w3)))
   else
   some (.inl (30, [some (rV a0), some (iV a1), none, some (iV a3), some (iV (w32 (a4 + 1)))], [], w3))) else none)
  else
  some (.inr (some (iV (-1)), w1))) else none := by
  rfl
set_option maxRecDepth 100000 in
theorem eX12_runsOf_0 (C : sC) (w : sW) (a0 a1 : Int) : sg C mX12_runsOf 2000 0 [some (rV a0), some (iV a1), none, none] [] w =
  some (.inl (4, [some (rV a0), some (iV a1), some (iV 0), some (iV 0)], [], w)) := by
  rfl
set_option maxRecDepth 100000 in
theorem eX12_runsOf_4 (C : sC) (w : sW) (a0 a1 a2 a3 : Int) : sg C mX12_runsOf 2000 4 [some (rV a0), some (iV a1), some (iV a2), some (iV a3)] [] w =
  if kd w a0 = 10 then
  bI (C 180 w [rV a0, iV a1]) (fun x2 w1 =>
  if a3 < x2 then
   (if a3 = 0 then
    (some (.inl (4, [some (rV a0), some (iV a1), some (iV (w32 (a2 + 1))), some (iV (w32 (a3 + 1)))], [], w1)))
   else
   if kd w1 a0 = 10 then
   bI (C 181 w1 [rV a0, iV a1, iV a3]) (fun x4 w3 =>
   if kd w3 a0 = 10 then
   bI (C 181 w3 [rV a0, iV a1, iV (w32 (a3 - 1))]) (fun x6 w5 =>
   if x4 = x6 then
    (some (.inl (4, [some (rV a0), some (iV a1), some (iV a2), some (iV (w32 (a3 + 1)))], [], w5)))
   else
   some (.inl (4, [some (rV a0), some (iV a1), some (iV (w32 (a2 + 1))), some (iV (w32 (a3 + 1)))], [], w5))) else none) else none)
  else
  some (.inr (some (iV a2), w1))) else none := by
  rfl
set_option maxRecDepth 100000 in
theorem eX12_runs_0 (C : sC) (w : sW) (a0 a1 : Int) : sg C mX12_runs 2000 0 [some (rV a0), some (iV a1)] [] w =
  if kd w a0 = 10 then
  wl (sv w a0 0 0) (fun w1 =>
  if kd w1 a0 = 10 then
  bI (C 188 w1 [rV a0, iV a1]) (fun x3 w2 =>
  if x3 = 0 then
   (some (.inr (some (iV (-1)), w2)))
  else
  if kd w2 a0 = 10 then
  bI (C 197 w2 [rV a0, iV a1]) (fun x5 w4 =>
  some (.inr (some (iV x5), w4))) else none) else none) else none := by
  rfl
set_option maxRecDepth 100000 in
theorem eX12_longest_0 (C : sC) (w : sW) (a0 a1 a2 : Int) : sg C mX12_longest 2000 0 [some (rV a0), some (iV a1), some (iV a2), none, none, none] [] w =
  if kd w a0 = 10 then
  wl (sv w a0 0 0) (fun w1 =>
  if kd w1 a0 = 10 then
  bI (C 188 w1 [rV a0, iV a1]) (fun x3 w2 =>
  if x3 = 0 then
   (some (.inr (some (iV (-1)), w2)))
  else
  if kd w2 a0 = 10 then
  bI (C 189 w2 [rV a0, iV a2]) (fun x5 w4 =>
  if x5 = 0 then
   (some (.inr (some (iV (-1)), w4)))
  else
  some (.inl (31, [some (rV a0), some (iV a1), some (iV a2), some (iV 0), some (iV 0), some (iV 0)], [], w4))) else none) else none) else none := by
  rfl
set_option maxRecDepth 100000 in
theorem eX12_longest_31 (C : sC) (w : sW) (a0 a1 a2 a3 a4 a5 : Int) : sg C mX12_longest 2000 31 [some (rV a0), some (iV a1), some (iV a2), some (iV a3), some (iV a4), some (iV a5)] [] w =
  if kd w a0 = 10 then
  bI (C 180 w [rV a0, iV a1]) (fun x2 w1 =>
  if a5 < x2 then
   (if kd w1 a0 = 10 then
   bI (C 181 w1 [rV a0, iV a1, iV a5]) (fun x4 w3 =>
   if x4 = a2 then
    (if a3 < (w32 (a4 + 1)) then
     (some (.inl (31, [some (rV a0), some (iV a1), some (iV a2), some (iV (w32 (a4 + 1))), some (iV (w32 (a4 + 1))), some (iV (w32 (a5 + 1)))], [], w3)))
    else
    some (.inl (31, [some (rV a0), some (iV a1), some (iV a2), some (iV a3), some (iV (w32 (a4 + 1))), some (iV (w32 (a5 + 1)))], [], w3)))
   else
   if a3 < (0 : Int) then
    (some (.inl (31, [some (rV a0), some (iV a1), some (iV a2), some (iV 0), some (iV 0), some (iV (w32 (a5 + 1)))], [], w3)))
   else
   some (.inl (31, [some (rV a0), some (iV a1), some (iV a2), some (iV a3), some (iV 0), some (iV (w32 (a5 + 1)))], [], w3))) else none)
  else
  some (.inr (some (iV a3), w1))) else none := by
  rfl
set_option maxRecDepth 100000 in
theorem eX12_word_0 (C : sC) (w : sW) (a0 a1 a2 : Int) : sg C mX12_word 2000 0 [some (rV a0), some (iV a1), some (iV a2), none, none] [] w =
  if kd w a0 = 10 then
  wl (sv w a0 0 0) (fun w1 =>
  if kd w1 a0 = 10 then
  bI (C 188 w1 [rV a0, iV a1]) (fun x3 w2 =>
  if x3 = 0 then
   (if kd w2 a0 = 10 then
   bI (C 150 w2 [rV a0]) (fun x5 w4 =>
   some (.inr (some (iV x5), w4))) else none)
  else
  if kd w2 a0 = 10 then
  bI (C 180 w2 [rV a0, iV a1]) (fun x7 w6 =>
  bI (C 155 w6 [iV a2, iV 0, iV x7]) (fun x9 w8 =>
  if x9 = 0 then
   (if kd w8 a0 = 10 then
   bI (C 150 w8 [rV a0]) (fun x11 w10 =>
   some (.inr (some (iV x11), w10))) else none)
  else
  some (.inl (36, [some (rV a0), some (iV a1), some (iV a2), some (iV 0), some (iV a2)], [], w8)))) else none) else none) else none := by
  rfl
set_option maxRecDepth 100000 in
theorem eX12_word_36 (C : sC) (w : sW) (a0 a1 a2 a3 a4 : Int) : sg C mX12_word 2000 36 [some (rV a0), some (iV a1), some (iV a2), some (iV a3), some (iV a4)] [] w =
  if a4 < (w32 (a2 + 32)) then
   (if kd w a0 = 10 then
   bI (C 180 w [rV a0, iV a1]) (fun x2 w1 =>
   if a4 < x2 then
    (if kd w1 a0 = 10 then
    bI (C 181 w1 [rV a0, iV a1, iV a4]) (fun x4 w3 =>
    some (.inl (36, [some (rV a0), some (iV a1), some (iV a2), some (iV (f_ior (f_ishl a3 1) x4)), some (iV (w32 (a4 + 1)))], [], w3))) else none)
   else
   some (.inl (36, [some (rV a0), some (iV a1), some (iV a2), some (iV (f_ior (f_ishl a3 1) 0)), some (iV (w32 (a4 + 1)))], [], w1))) else none)
  else
  some (.inr (some (iV a3), w)) := by
  rfl
set_option maxRecDepth 100000 in
theorem eX12_leaves_0 (C : sC) (w : sW) (a0 a1 : Int) : sg C mX12_leaves 2000 0 [some (rV a0), some (iV a1)] [] w =
  if kd w a0 = 10 then
  wl (sv w a0 0 0) (fun w1 =>
  if kd w1 a0 = 10 then
  bI (C 188 w1 [rV a0, iV a1]) (fun x3 w2 =>
  if x3 = 0 then
   (some (.inr (some (iV (-1)), w2)))
  else
  if kd w2 a0 = 10 then
  if kd w2 (gv w2 a0 14) = 20 ∧ 0 ≤ (w32 (2611 + a1)) ∧ (w32 (2611 + a1)) < ln w2 (gv w2 a0 14) then
  some (.inr (some (iV (gv w2 (gv w2 a0 14) (w32 (2611 + a1)))), w2)) else none else none) else none) else none := by
  rfl
set_option maxRecDepth 100000 in
theorem eX12_leaf_0 (C : sC) (w : sW) (a0 a1 a2 a3 : Int) : sg C mX12_leaf 2000 0 [some (rV a0), some (iV a1), some (iV a2), some (iV a3), none, none] [] w =
  if kd w a0 = 10 then
  wl (sv w a0 0 0) (fun w1 =>
  if kd w1 a0 = 10 then
  bI (C 188 w1 [rV a0, iV a1]) (fun x3 w2 =>
  if x3 = 0 then
   (some (.inr (some (iV (-1)), w2)))
  else
  if kd w2 a0 = 10 then
  if kd w2 (gv w2 a0 14) = 20 ∧ 0 ≤ (w32 (2611 + a1)) ∧ (w32 (2611 + a1)) < ln w2 (gv w2 a0 14) then
  bI (C 155 w2 [iV a2, iV 0, iV (w32 ((gv w2 (gv w2 a0 14) (w32 (2611 + a1))) - 1))]) (fun x5 w4 =>
  if x5 = 0 then
   (some (.inr (some (iV (-1)), w4)))
  else
  some (.inl (41, [some (rV a0), some (iV a1), some (iV a2), some (iV a3), some (iV 0), some (iV 0)], [], w4))) else none else none) else none) else none := by
  rfl
set_option maxRecDepth 100000 in
theorem eX12_leaf_41 (C : sC) (w : sW) (a0 a1 a2 a3 a4 a5 : Int) : sg C mX12_leaf 2000 41 [some (rV a0), some (iV a1), some (iV a2), some (iV a3), some (iV a4), some (iV a5)] [] w =
  if a5 < a2 then
   (if kd w a0 = 10 then
   if kd w a0 = 10 then
   bI (C 182 w [rV a0, iV a1, iV a5]) (fun x2 w1 =>
   if kd w1 (gv w a0 14) = 20 ∧ 0 ≤ x2 ∧ x2 < ln w1 (gv w a0 14) then
   some (.inl (41, [some (rV a0), some (iV a1), some (iV a2), some (iV a3), some (iV (w32 (a4 + (gv w1 (gv w a0 14) x2)))), some (iV (w32 (a5 + 1)))], [], w1)) else none) else none else none)
  else
  if kd w a0 = 10 then
  if kd w a0 = 10 then
  bI (C 182 w [rV a0, iV a1, iV a2]) (fun x4 w3 =>
  if kd w3 (gv w a0 14) = 20 ∧ 0 ≤ x4 ∧ x4 < ln w3 (gv w a0 14) then
  if a3 = 0 then
   (some (.inr (some (iV (gv w3 (gv w a0 14) x4)), w3)))
  else if a3 = 1 then
   (if kd w3 a0 = 10 then
   bI (C 191 w3 [rV a0, iV a1, iV a4, iV (w32 (a4 + (gv w3 (gv w a0 14) x4)))]) (fun x6 w5 =>
   some (.inr (some (iV x6), w5))) else none)
  else if a3 = 2 then
   (some (.inr (some (iV a4), w3)))
  else some (.inr (some (iV (-1)), w3)) else none) else none else none := by
  rfl
set_option maxRecDepth 100000 in
theorem eX12_highOf_0 (C : sC) (w : sW) (a0 : Int) : sg C mX12_highOf 2000 0 [some (iV a0)] [] w =
  if a0 < 2 then
   (some (.inr (some (iV 0), w)))
  else
  if (2 : Int) = 0 then none else
  bI (C 203 w [iV (w32 (Int.tdiv (w32 (a0 + 1)) 2))]) (fun x2 w1 =>
  some (.inr (some (iV (w32 (1 + x2))), w1))) := by
  rfl
set_option maxRecDepth 100000 in
theorem eX12_mixedOf_0 (C : sC) (w : sW) (a0 : Int) : sg C mX12_mixedOf 2000 0 [some (iV a0)] [] w =
  if a0 < 2 then
   (some (.inr (some (iV 0), w)))
  else
  if (2 : Int) = 0 then none else
  bI (C 204 w [iV (w32 (Int.tdiv (w32 (a0 + 1)) 2))]) (fun x2 w1 =>
  if (2 : Int) = 0 then none else
  bI (C 204 w1 [iV (w32 (Int.tdiv a0 2))]) (fun x4 w3 =>
  if a0 = 3 then
   (some (.inr (some (iV (w32 ((w32 (x2 + x4)) + 1))), w3)))
  else
  some (.inr (some (iV (w32 ((w32 (x2 + x4)) + 0))), w3)))) := by
  rfl
set_option maxRecDepth 100000 in
theorem eX12_innerOf_0 (C : sC) (w : sW) (a0 : Int) : sg C mX12_innerOf 2000 0 [some (iV a0)] [] w =
  if a0 < 2 then
   (some (.inr (some (iV 0), w)))
  else
  some (.inr (some (iV (w32 (a0 - 1))), w)) := by
  rfl
set_option maxRecDepth 100000 in
theorem eX12_costOf_0 (C : sC) (w : sW) (a0 a1 : Int) : sg C mX12_costOf 2000 0 [some (rV a0), some (iV a1), none, none] [] w =
  if kd w a0 = 10 then
  if kd w (gv w a0 14) = 20 ∧ 0 ≤ (w32 (2611 + a1)) ∧ (w32 (2611 + a1)) < ln w (gv w a0 14) then
  bI (C 205 w [iV (gv w (gv w a0 14) (w32 (2611 + a1)))]) (fun x2 w1 =>
  some (.inl (18, [some (rV a0), some (iV a1), some (iV (w32 (5 * x2))), some (iV 0)], [], w1))) else none else none := by
  rfl
set_option maxRecDepth 100000 in
theorem eX12_costOf_18 (C : sC) (w : sW) (a0 a1 a2 a3 : Int) : sg C mX12_costOf 2000 18 [some (rV a0), some (iV a1), some (iV a2), some (iV a3)] [] w =
  if kd w a0 = 10 then
  if kd w (gv w a0 14) = 20 ∧ 0 ≤ (w32 (2611 + a1)) ∧ (w32 (2611 + a1)) < ln w (gv w a0 14) then
  if a3 < (gv w (gv w a0 14) (w32 (2611 + a1))) then
   (if kd w a0 = 10 then
   if kd w a0 = 10 then
   bI (C 182 w [rV a0, iV a1, iV a3]) (fun x2 w1 =>
   if kd w1 (gv w a0 14) = 20 ∧ 0 ≤ x2 ∧ x2 < ln w1 (gv w a0 14) then
   if (32 : Int) = 0 then none else
   some (.inl (18, [some (rV a0), some (iV a1), some (iV (w32 (a2 + (w32 ((w32 (Int.tdiv (w32 ((gv w1 (gv w a0 14) x2) + 31)) 32)) + 4))))), some (iV (w32 (a3 + 1)))], [], w1)) else none) else none else none)
  else
  some (.inr (some (iV a2), w)) else none else none := by
  rfl
set_option maxRecDepth 100000 in
theorem eX12_tree_0 (C : sC) (w : sW) (a0 a1 a2 : Int) : sg C mX12_tree 2000 0 [some (rV a0), some (iV a1), some (iV a2), none] [] w =
  if kd w a0 = 10 then
  wl (sv w a0 0 0) (fun w1 =>
  if kd w1 a0 = 10 then
  bI (C 188 w1 [rV a0, iV a1]) (fun x3 w2 =>
  if x3 = 0 then
   (some (.inr (some (iV (-1)), w2)))
  else
  if kd w2 a0 = 10 then
  if kd w2 (gv w2 a0 14) = 20 ∧ 0 ≤ (w32 (2611 + a1)) ∧ (w32 (2611 + a1)) < ln w2 (gv w2 a0 14) then
  if a2 = 0 then
   (bI (C 203 w2 [iV (gv w2 (gv w2 a0 14) (w32 (2611 + a1)))]) (fun x5 w4 =>
   some (.inr (some (iV x5), w4))))
  else if a2 = 1 then
   (bI (C 205 w2 [iV (gv w2 (gv w2 a0 14) (w32 (2611 + a1)))]) (fun x7 w6 =>
   some (.inr (some (iV x7), w6))))
  else if a2 = 2 then
   (bI (C 204 w2 [iV (gv w2 (gv w2 a0 14) (w32 (2611 + a1)))]) (fun x9 w8 =>
   some (.inr (some (iV x9), w8))))
  else if a2 = 3 then
   (if kd w2 a0 = 10 then
   bI (C 206 w2 [rV a0, iV a1]) (fun x11 w10 =>
   some (.inr (some (iV x11), w10))) else none)
  else some (.inr (some (iV (-1)), w2)) else none else none) else none) else none := by
  rfl
set_option maxRecDepth 100000 in
theorem eX12_firstBits_0 (C : sC) (w : sW) (a0 a1 a2 a3 : Int) : sg C mX12_firstBits 2000 0 [some (rV a0), some (iV a1), some (iV a2), some (iV a3), none, none, none, none, none, none, none, none, none] [] w =
  if kd w a0 = 10 then
  wl (sv w a0 26 0) (fun w1 =>
  some (.inl (13, [some (rV a0), none, none, some (iV a3), some (lV a1), none, some (lV a2), none, none, none, none, none, none], [], w1))) else none := by
  rfl
set_option maxRecDepth 100000 in
theorem eX12_firstBits_13 (C : sC) (w : sW) (a0 a3 a4 a6 : Int) : sg C mX12_firstBits 2000 13 [some (rV a0), none, none, some (iV a3), some (lV a4), none, some (lV a6), none, none, none, none, none, none] [] w =
  if (cmpL a4 (w64 (2 * a6))) < 0 then
   (some (.inl (46, [some (rV a0), none, none, some (iV a3), some (lV a4), none, some (lV a6), none, none, none, none, none, none], [], w)))
  else
  if kd w a0 = 10 then
  if kd w a0 = 10 then
  wl (sv w a0 26 (w32 ((gv w a0 26) + 1))) (fun w1 =>
  some (.inl (13, [some (rV a0), none, none, some (iV a3), some (lV a4), none, some (lV (w64 (a6 * 2))), none, none, none, none, none, none], [], w1))) else none else none := by
  rfl
set_option maxRecDepth 100000 in
theorem eX12_firstBits_46 (C : sC) (w : sW) (a0 a3 a4 a6 : Int) : sg C mX12_firstBits 2000 46 [some (rV a0), none, none, some (iV a3), some (lV a4), none, some (lV a6), none, none, none, none, none, none] [] w =
  if (cmpL a4 a6) < 0 then
   (if kd w a0 = 10 then
   if kd w a0 = 10 then
   wl (sv w a0 26 (w32 ((gv w a0 26) - 1))) (fun w1 =>
   some (.inl (46, [some (rV a0), none, none, some (iV a3), some (lV (w64 (a4 * 2))), none, some (lV a6), none, none, none, none, none, none], [], w1))) else none else none)
  else
  some (.inl (88, [some (rV a0), none, none, some (iV a3), none, none, some (lV a6), none, some (lV 1), none, some (lV (w64 (a4 - a6))), none, some (iV 1)], [], w)) := by
  rfl
set_option maxRecDepth 100000 in
theorem eX12_firstBits_88 (C : sC) (w : sW) (a0 a3 a6 a8 a10 a12 : Int) : sg C mX12_firstBits 2000 88 [some (rV a0), none, none, some (iV a3), none, none, some (lV a6), none, some (lV a8), none, some (lV a10), none, some (iV a12)] [] w =
  if a12 < a3 then
   (if (cmpL (w64 (a10 * 2)) a6) < 0 then
    (some (.inl (88, [some (rV a0), none, none, some (iV a3), none, none, some (lV a6), none, some (lV (w64 (a8 * 2))), none, some (lV (w64 (a10 * 2))), none, some (iV (w32 (a12 + 1)))], [], w)))
   else
   some (.inl (88, [some (rV a0), none, none, some (iV a3), none, none, some (lV a6), none, some (lV (w64 ((w64 (a8 * 2)) + 1))), none, some (lV (w64 ((w64 (a10 * 2)) - a6))), none, some (iV (w32 (a12 + 1)))], [], w)))
  else
  if 0 < (cmpL (w64 (2 * a10)) a6) then
   (if (cmpL (w64 (a8 + 1)) (f_lshl 1 a3)) < 0 then
    (some (.inr (some (lV (w64 (a8 + 1))), w)))
   else
   if kd w a0 = 10 then
   if kd w a0 = 10 then
   wl (sv w a0 26 (w32 ((gv w a0 26) + 1))) (fun w1 =>
   if (2 : Int) = 0 then none else
   some (.inr (some (lV (w64 (Int.tdiv (w64 (a8 + 1)) 2))), w1))) else none else none)
  else
  if (cmpL (w64 (2 * a10)) a6) = 0 then
   (if (2 : Int) = 0 then none else
   if (cmpL (Int.tmod a8 2) 1) = 0 then
    (if (cmpL (w64 (a8 + 1)) (f_lshl 1 a3)) < 0 then
     (some (.inr (some (lV (w64 (a8 + 1))), w)))
    else
    if kd w a0 = 10 then
    if kd w a0 = 10 then
    wl (sv w a0 26 (w32 ((gv w a0 26) + 1))) (fun w2 =>
    if (2 : Int) = 0 then none else
    some (.inr (some (lV (w64 (Int.tdiv (w64 (a8 + 1)) 2))), w2))) else none else none)
   else
   if (cmpL a8 (f_lshl 1 a3)) < 0 then
    (some (.inr (some (lV a8), w)))
   else
   if kd w a0 = 10 then
   if kd w a0 = 10 then
   wl (sv w a0 26 (w32 ((gv w a0 26) + 1))) (fun w3 =>
   if (2 : Int) = 0 then none else
   some (.inr (some (lV (w64 (Int.tdiv a8 2))), w3))) else none else none)
  else
  if (cmpL a8 (f_lshl 1 a3)) < 0 then
   (some (.inr (some (lV a8), w)))
  else
  if kd w a0 = 10 then
  if kd w a0 = 10 then
  wl (sv w a0 26 (w32 ((gv w a0 26) + 1))) (fun w4 =>
  if (2 : Int) = 0 then none else
  some (.inr (some (lV (w64 (Int.tdiv a8 2))), w4))) else none else none := by
  rfl
set_option maxRecDepth 100000 in
theorem eX12_asFloat_0 (C : sC) (w : sW) (a0 a1 a2 : Int) : sg C mX12_asFloat 2000 0 [some (rV a0), some (iV a1), some (iV a2), none] [] w =
  if a1 = 0 then
   (some (.inr (some (iV 0), w)))
  else
  if kd w a0 = 10 then
  bL (C 208 w [rV a0, iV a1, iV a2, iV 24]) (fun y2 w1 =>
  if kd w1 a0 = 10 then
  some (.inr (some (iV (f_ior (f_ishl (w32 ((gv w1 a0 26) + 127)) 23) (w32 ((w32 y2) - 8388608)))), w1)) else none) else none := by
  rfl
set_option maxRecDepth 100000 in
theorem eX12_asDouble_0 (C : sC) (w : sW) (a0 a1 a2 : Int) : sg C mX12_asDouble 2000 0 [some (rV a0), some (iV a1), some (iV a2), none, none] [] w =
  if a1 = 0 then
   (some (.inr (some (lV 0), w)))
  else
  if kd w a0 = 10 then
  bL (C 208 w [rV a0, iV a1, iV a2, iV 53]) (fun y2 w1 =>
  if kd w1 a0 = 10 then
  some (.inr (some (lV (f_lor (f_lshl (w64 ((gv w1 a0 26) + 1023)) 52) (w64 (y2 - 4503599627370496)))), w1)) else none) else none := by
  rfl
set_option maxRecDepth 100000 in
theorem eX12_dense_0 (C : sC) (w : sW) (a0 a1 a2 a3 : Int) : sg C mX12_dense 2000 0 [some (rV a0), some (iV a1), some (iV a2), some (iV a3)] [] w =
  if kd w a0 = 10 then
  wl (sv w a0 0 0) (fun w1 =>
  if kd w1 a0 = 10 then
  bI (C 188 w1 [rV a0, iV a1]) (fun x3 w2 =>
  if x3 = 0 then
   (if kd w2 a0 = 10 then
   bI (C 150 w2 [rV a0]) (fun x5 w4 =>
   some (.inr (some (iV x5), w4))) else none)
  else
  if a2 < 0 then
   (if kd w2 a0 = 10 then
   bI (C 150 w2 [rV a0]) (fun x7 w6 =>
   some (.inr (some (iV x7), w6))) else none)
  else
  if a3 < 1 then
   (if kd w2 a0 = 10 then
   bI (C 150 w2 [rV a0]) (fun x9 w8 =>
   some (.inr (some (iV x9), w8))) else none)
  else
  if kd w2 a0 = 10 then
  bI (C 180 w2 [rV a0, iV a1]) (fun x11 w10 =>
  if x11 < a3 then
   (if kd w10 a0 = 10 then
   bI (C 150 w10 [rV a0]) (fun x13 w12 =>
   some (.inr (some (iV x13), w12))) else none)
  else
  if kd w10 a0 = 10 then
  bI (C 180 w10 [rV a0, iV a1]) (fun x15 w14 =>
  if (w32 (x15 - a3)) < a2 then
   (if kd w14 a0 = 10 then
   bI (C 150 w14 [rV a0]) (fun x17 w16 =>
   some (.inr (some (iV x17), w16))) else none)
  else
  if kd w14 a0 = 10 then
  bI (C 191 w14 [rV a0, iV a1, iV a2, iV (w32 (a2 + a3))]) (fun x19 w18 =>
  if kd w18 a0 = 10 then
  bI (C 209 w18 [rV a0, iV x19, iV a3]) (fun x21 w20 =>
  some (.inr (some (iV x21), w20))) else none) else none) else none) else none) else none) else none := by
  rfl
set_option maxRecDepth 100000 in
theorem eX12_load_0 (C : sC) (w : sW) (a0 a1 : Int) : sg C mX12_load 2000 0 [some (rV a0), some (iV a1)] [] w =
  if kd w a0 = 10 then
  wl (sv w a0 0 0) (fun w1 =>
  if kd w1 a0 = 10 then
  bI (C 188 w1 [rV a0, iV a1]) (fun x3 w2 =>
  if x3 = 0 then
   (if kd w2 a0 = 10 then
   bI (C 150 w2 [rV a0]) (fun x5 w4 =>
   some (.inr (some (iV x5), w4))) else none)
  else
  if kd w2 a0 = 10 then
  bI (C 180 w2 [rV a0, iV a1]) (fun x7 w6 =>
  if 0 < x7 then
   (if kd w6 a0 = 10 then
   bI (C 206 w6 [rV a0, iV a1]) (fun x9 w8 =>
   if kd w8 a0 = 10 then
   bI (C 180 w8 [rV a0, iV a1]) (fun x11 w10 =>
   if kd w10 a0 = 10 then
   bI (C 209 w10 [rV a0, iV (w32 (32 * x9)), iV x11]) (fun x13 w12 =>
   some (.inr (some (iV x13), w12))) else none) else none) else none)
  else
  if kd w6 a0 = 10 then
  bI (C 150 w6 [rV a0]) (fun x15 w14 =>
  some (.inr (some (iV x15), w14))) else none) else none) else none) else none := by
  rfl
set_option maxRecDepth 100000 in
theorem eX12_centre_0 (C : sC) (w : sW) (a0 a1 a2 : Int) : sg C mX12_centre 2000 0 [some (rV a0), some (iV a1), some (iV a2), none, none, none, none] [] w =
  if kd w a0 = 10 then
  wl (sv w a0 0 0) (fun w1 =>
  if kd w1 a0 = 10 then
  bI (C 188 w1 [rV a0, iV a1]) (fun x3 w2 =>
  if x3 = 0 then
   (if kd w2 a0 = 10 then
   bI (C 150 w2 [rV a0]) (fun x5 w4 =>
   some (.inr (some (iV x5), w4))) else none)
  else
  bI (C 155 w2 [iV a2, iV 0, iV 1]) (fun x7 w6 =>
  if x7 = 0 then
   (if kd w6 a0 = 10 then
   bI (C 150 w6 [rV a0]) (fun x9 w8 =>
   some (.inr (some (iV x9), w8))) else none)
  else
  some (.inl (35, [some (rV a0), some (iV a1), some (iV a2), some (iV 0), some (iV 0), some (iV 0), none], [], w6)))) else none) else none := by
  rfl
set_option maxRecDepth 100000 in
theorem eX12_centre_35 (C : sC) (w : sW) (a0 a1 a2 a3 a4 a5 : Int) : sg C mX12_centre 2000 35 [some (rV a0), some (iV a1), some (iV a2), some (iV a3), some (iV a4), some (iV a5), none] [] w =
  if kd w a0 = 10 then
  bI (C 180 w [rV a0, iV a1]) (fun x2 w1 =>
  if a5 < x2 then
   (if kd w1 a0 = 10 then
   bI (C 181 w1 [rV a0, iV a1, iV a5]) (fun x4 w3 =>
   if x4 = 0 then
    (some (.inl (35, [some (rV a0), some (iV a1), some (iV a2), some (iV a3), some (iV a4), some (iV (w32 (a5 + 1))), none], [], w3)))
   else
   some (.inl (35, [some (rV a0), some (iV a1), some (iV a2), some (iV (w32 (a3 + 1))), some (iV (w32 (a4 + a5))), some (iV (w32 (a5 + 1))), none], [], w3))) else none)
  else
  if a3 = 0 then
   (if kd w1 a0 = 10 then
   bI (C 150 w1 [rV a0]) (fun x6 w5 =>
   some (.inr (some (iV x6), w5))) else none)
  else
  if kd w1 a0 = 10 then
  bL (C 210 w1 [rV a0, iV a4, iV a3]) (fun y8 w7 =>
  if a2 = 0 then
   (some (.inr (some (iV (w32 (f_lshr y8 32))), w7)))
  else
  some (.inr (some (iV (w32 y8)), w7))) else none) else none := by
  rfl
set_option maxRecDepth 100000 in
theorem eX12_firstApart_0 (C : sC) (w : sW) (a0 a1 a2 : Int) : sg C mX12_firstApart 2000 0 [some (rV a0), some (iV a1), some (iV a2), none] [] w =
  some (.inl (2, [some (rV a0), some (iV a1), some (iV a2), some (iV 0)], [], w)) := by
  rfl
set_option maxRecDepth 100000 in
theorem eX12_firstApart_2 (C : sC) (w : sW) (a0 a1 a2 a3 : Int) : sg C mX12_firstApart 2000 2 [some (rV a0), some (iV a1), some (iV a2), some (iV a3)] [] w =
  if kd w a0 = 10 then
  bI (C 190 w [rV a0, iV a1, iV a3]) (fun x2 w1 =>
  if x2 = 0 then
   (some (.inr (some (iV a3), w1)))
  else
  if kd w1 a0 = 10 then
  bI (C 190 w1 [rV a0, iV a2, iV a3]) (fun x4 w3 =>
  if x4 = 0 then
   (some (.inr (some (iV a3), w3)))
  else
  if kd w3 a0 = 10 then
  bI (C 181 w3 [rV a0, iV a1, iV a3]) (fun x6 w5 =>
  if kd w5 a0 = 10 then
  bI (C 181 w5 [rV a0, iV a2, iV a3]) (fun x8 w7 =>
  if x6 = x8 then
   (some (.inl (2, [some (rV a0), some (iV a1), some (iV a2), some (iV (w32 (a3 + 1)))], [], w7)))
  else
  some (.inr (some (iV a3), w7))) else none) else none) else none) else none := by
  rfl
set_option maxRecDepth 100000 in
theorem eX12_apart_0 (C : sC) (w : sW) (a0 a1 a2 : Int) : sg C mX12_apart 2000 0 [some (rV a0), some (iV a1), some (iV a2), none, none] [] w =
  if kd w a0 = 10 then
  wl (sv w a0 0 0) (fun w1 =>
  if kd w1 a0 = 10 then
  bI (C 188 w1 [rV a0, iV a1]) (fun x3 w2 =>
  if x3 = 0 then
   (some (.inr (some (iV (-1)), w2)))
  else
  if kd w2 a0 = 10 then
  bI (C 188 w2 [rV a0, iV a2]) (fun x5 w4 =>
  if x5 = 0 then
   (some (.inr (some (iV (-1)), w4)))
  else
  if kd w4 a0 = 10 then
  bI (C 180 w4 [rV a0, iV a1]) (fun x7 w6 =>
  if kd w6 a0 = 10 then
  bI (C 180 w6 [rV a0, iV a2]) (fun x9 w8 =>
  if x9 < x7 then
   (if kd w8 a0 = 10 then
   bI (C 180 w8 [rV a0, iV a1]) (fun x11 w10 =>
   if kd w10 a0 = 10 then
   bI (C 180 w10 [rV a0, iV a2]) (fun x13 w12 =>
   some (.inl (65, [some (rV a0), some (iV a1), some (iV a2), some (iV (w32 (x11 - x13))), some (iV 0)], [], w12))) else none) else none)
  else
  if kd w8 a0 = 10 then
  bI (C 180 w8 [rV a0, iV a2]) (fun x15 w14 =>
  if kd w14 a0 = 10 then
  bI (C 180 w14 [rV a0, iV a1]) (fun x17 w16 =>
  some (.inl (65, [some (rV a0), some (iV a1), some (iV a2), some (iV (w32 (x15 - x17))), some (iV 0)], [], w16))) else none) else none) else none) else none) else none) else none) else none := by
  rfl
set_option maxRecDepth 100000 in
theorem eX12_apart_65 (C : sC) (w : sW) (a0 a1 a2 a3 a4 : Int) : sg C mX12_apart 2000 65 [some (rV a0), some (iV a1), some (iV a2), some (iV a3), some (iV a4)] [] w =
  if kd w a0 = 10 then
  bI (C 190 w [rV a0, iV a1, iV a4]) (fun x2 w1 =>
  if x2 = 0 then
   (some (.inr (some (iV a3), w1)))
  else
  if kd w1 a0 = 10 then
  bI (C 190 w1 [rV a0, iV a2, iV a4]) (fun x4 w3 =>
  if x4 = 0 then
   (some (.inr (some (iV a3), w3)))
  else
  if kd w3 a0 = 10 then
  bI (C 181 w3 [rV a0, iV a1, iV a4]) (fun x6 w5 =>
  if kd w5 a0 = 10 then
  bI (C 181 w5 [rV a0, iV a2, iV a4]) (fun x8 w7 =>
  if x6 = x8 then
   (some (.inl (65, [some (rV a0), some (iV a1), some (iV a2), some (iV a3), some (iV (w32 (a4 + 1)))], [], w7)))
  else
  some (.inl (65, [some (rV a0), some (iV a1), some (iV a2), some (iV (w32 (a3 + 1))), some (iV (w32 (a4 + 1)))], [], w7))) else none) else none) else none) else none := by
  rfl
set_option maxRecDepth 100000 in
theorem eX12_areLike_0 (C : sC) (w : sW) (a0 a1 a2 : Int) : sg C mX12_areLike 2000 0 [some (rV a0), some (iV a1), some (iV a2)] [] w =
  if kd w a0 = 10 then
  bI (C 180 w [rV a0, iV a1]) (fun x2 w1 =>
  if kd w1 a0 = 10 then
  bI (C 180 w1 [rV a0, iV a2]) (fun x4 w3 =>
  if x2 = x4 then
   (if kd w3 a0 = 10 then
   bI (C 214 w3 [rV a0, iV a1, iV a2]) (fun x6 w5 =>
   if kd w5 a0 = 10 then
   bI (C 180 w5 [rV a0, iV a1]) (fun x8 w7 =>
   if x6 = x8 then
    (some (.inr (some (iV 1), w7)))
   else
   some (.inr (some (iV 0), w7))) else none) else none)
  else
  some (.inr (some (iV 0), w3))) else none) else none := by
  rfl
set_option maxRecDepth 100000 in
theorem eX12_differ_0 (C : sC) (w : sW) (a0 a1 a2 : Int) : sg C mX12_differ 2000 0 [some (rV a0), some (iV a1), some (iV a2)] [] w =
  if kd w a0 = 10 then
  wl (sv w a0 0 0) (fun w1 =>
  if kd w1 a0 = 10 then
  bI (C 188 w1 [rV a0, iV a1]) (fun x3 w2 =>
  if x3 = 0 then
   (some (.inr (some (iV (-1)), w2)))
  else
  if kd w2 a0 = 10 then
  bI (C 188 w2 [rV a0, iV a2]) (fun x5 w4 =>
  if x5 = 0 then
   (some (.inr (some (iV (-1)), w4)))
  else
  if kd w4 a0 = 10 then
  bI (C 216 w4 [rV a0, iV a1, iV a2]) (fun x7 w6 =>
  if x7 = 0 then
   (if kd w6 a0 = 10 then
   bI (C 214 w6 [rV a0, iV a1, iV a2]) (fun x9 w8 =>
   some (.inr (some (iV x9), w8))) else none)
  else
  some (.inr (some (iV (-1)), w6))) else none) else none) else none) else none := by
  rfl
set_option maxRecDepth 100000 in
theorem eX12_isOnTape_0 (C : sC) (w : sW) (a0 a1 a2 a3 : Int) : sg C mX12_isOnTape 2000 0 [some (rV a0), some (iV a1), some (iV a2), some (iV a3), none] [] w =
  some (.inl (3, [some (rV a0), some (iV a1), some (iV a2), some (iV a3), some (iV 0)], [], w)) := by
  rfl
set_option maxRecDepth 100000 in
theorem eX12_isOnTape_3 (C : sC) (w : sW) (a0 a1 a2 a3 a4 : Int) : sg C mX12_isOnTape 2000 3 [some (rV a0), some (iV a1), some (iV a2), some (iV a3), some (iV a4)] [] w =
  if a4 < a3 then
   (if kd w a0 = 10 then
   bI (C 181 w [rV a0, iV a1, iV (w32 (a2 + a4))]) (fun x2 w1 =>
   if kd w1 a0 = 10 then
   if kd w1 (gv w1 a0 1) = 20 ∧ 0 ≤ a4 ∧ a4 < ln w1 (gv w1 a0 1) then
   if x2 = (gv w1 (gv w1 a0 1) a4) then
    (some (.inl (3, [some (rV a0), some (iV a1), some (iV a2), some (iV a3), some (iV (w32 (a4 + 1)))], [], w1)))
   else
   some (.inr (some (iV 0), w1)) else none else none) else none)
  else
  some (.inr (some (iV 1), w)) := by
  rfl
set_option maxRecDepth 100000 in
theorem eX12_areTapeBits_0 (C : sC) (w : sW) (a0 a1 a2 : Int) : sg C mX12_areTapeBits 2000 0 [some (rV a0), some (iV a1), some (iV a2), none] [] w =
  some (.inl (2, [some (rV a0), some (iV a1), some (iV a2), some (iV 0)], [], w)) := by
  rfl
set_option maxRecDepth 100000 in
theorem eX12_areTapeBits_2 (C : sC) (w : sW) (a0 a1 a2 a3 : Int) : sg C mX12_areTapeBits 2000 2 [some (rV a0), some (iV a1), some (iV a2), some (iV a3)] [] w =
  if a3 < a1 then
   (if kd w a0 = 10 then
   if kd w (gv w a0 1) = 20 ∧ 0 ≤ a3 ∧ a3 < ln w (gv w a0 1) then
   if 1 < (gv w (gv w a0 1) a3) then
    (some (.inr (some (iV 0), w)))
   else
   some (.inl (2, [some (rV a0), some (iV a1), some (iV a2), some (iV (w32 (a3 + 1)))], [], w)) else none else none)
  else
  bI (C 155 w [iV a1, iV 1, iV a2]) (fun x2 w1 =>
  if x2 = 0 ∨ x2 = 1 then some (.inr (some (iV x2), w1)) else none) := by
  rfl
set_option maxRecDepth 100000 in
theorem eX12_seek_0 (C : sC) (w : sW) (a0 a1 : Int) : sg C mX12_seek 2000 0 [some (rV a0), some (iV a1), none, none] [] w =
  if kd w a0 = 10 then
  wl (sv w a0 0 0) (fun w1 =>
  if kd w1 a0 = 10 then
  bI (C 154 w1 [rV a0]) (fun x3 w2 =>
  if kd w2 a0 = 10 then
  bI (C 188 w2 [rV a0, iV a1]) (fun x5 w4 =>
  if x5 = 0 then
   (some (.inr (some (iV (-1)), w4)))
  else
  if kd w4 a0 = 10 then
  bI (C 219 w4 [rV a0, iV x3, iV 32]) (fun x7 w6 =>
  if x7 = 0 then
   (some (.inr (some (iV (-1)), w6)))
  else
  if kd w6 a0 = 10 then
  wl (sv w6 a0 28 0) (fun w8 =>
  some (.inl (37, [some (rV a0), some (iV a1), some (iV x3), some (iV 0)], [], w8))) else none) else none) else none) else none) else none := by
  rfl
set_option maxRecDepth 100000 in
theorem eX12_seek_37 (C : sC) (w : sW) (a0 a1 a2 a3 : Int) : sg C mX12_seek 2000 37 [some (rV a0), some (iV a1), some (iV a2), some (iV a3)] [] w =
  if kd w a0 = 10 then
  bI (C 180 w [rV a0, iV a1]) (fun x2 w1 =>
  if x2 < (w32 (a3 + a2)) then
   (if kd w1 a0 = 10 then
   some (.inr (some (iV (gv w1 a0 28)), w1)) else none)
  else
  if kd w1 a0 = 10 then
  bI (C 218 w1 [rV a0, iV a1, iV a3, iV a2]) (fun x4 w3 =>
  if x4 = 0 then
   (some (.inl (37, [some (rV a0), some (iV a1), some (iV a2), some (iV (w32 (a3 + 1)))], [], w3)))
  else
  if kd w3 a0 = 10 then
  if kd w3 a0 = 10 then
  if (kd w3 (gv w3 a0 27) = 20 ∧ 32 ≤ (gv w3 a0 27)) ∧ 0 ≤ (gv w3 a0 28) ∧ (gv w3 a0 28) < ln w3 (gv w3 a0 27) then
  wl (sv w3 (gv w3 a0 27) (gv w3 a0 28) a3) (fun w5 =>
  if kd w5 a0 = 10 then
  if kd w5 a0 = 10 then
  wl (sv w5 a0 28 (w32 ((gv w5 a0 28) + 1))) (fun w6 =>
  some (.inl (37, [some (rV a0), some (iV a1), some (iV a2), some (iV (w32 (a3 + 1)))], [], w6))) else none else none) else none else none else none) else none) else none := by
  rfl
set_option maxRecDepth 100000 in
theorem eX12_seekAt_0 (C : sC) (w : sW) (a0 a1 : Int) : sg C mX12_seekAt 2000 0 [some (rV a0), some (iV a1)] [] w =
  if kd w a0 = 10 then
  wl (sv w a0 0 0) (fun w1 =>
  if kd w1 a0 = 10 then
  bI (C 155 w1 [iV a1, iV 0, iV (w32 ((gv w1 a0 28) - 1))]) (fun x3 w2 =>
  if x3 = 0 then
   (some (.inr (some (iV (-1)), w2)))
  else
  if kd w2 a0 = 10 then
  if kd w2 (gv w2 a0 27) = 20 ∧ 0 ≤ a1 ∧ a1 < ln w2 (gv w2 a0 27) then
  some (.inr (some (iV (gv w2 (gv w2 a0 27) a1)), w2)) else none else none) else none) else none := by
  rfl
set_option maxRecDepth 100000 in
theorem eX12_isLetterAt_0 (C : sC) (w : sW) (a0 a1 : Int) : sg C mX12_isLetterAt 2000 0 [some (rV a0), some (iV a1)] [] w =
  if kd w a0 = 10 then
  if kd w (gv w a0 14) = 20 ∧ 0 ≤ (2615 : Int) ∧ (2615 : Int) < ln w (gv w a0 14) then
  bI (C 155 w [iV a1, iV 0, iV (w32 ((gv w (gv w a0 14) 2615) - 1))]) (fun x2 w1 =>
  if x2 = 0 ∨ x2 = 1 then some (.inr (some (iV x2), w1)) else none) else none else none := by
  rfl
set_option maxRecDepth 100000 in
theorem eX12_letters_0 (C : sC) (w : sW) (a0 : Int) : sg C mX12_letters 2000 0 [some (rV a0)] [] w =
  if kd w a0 = 10 then
  wl (sv w a0 0 0) (fun w1 =>
  if kd w1 a0 = 10 then
  if kd w1 (gv w1 a0 14) = 20 ∧ 0 ≤ (2615 : Int) ∧ (2615 : Int) < ln w1 (gv w1 a0 14) then
  some (.inr (some (iV (gv w1 (gv w1 a0 14) 2615)), w1)) else none else none) else none := by
  rfl
set_option maxRecDepth 100000 in
theorem eX12_letter_0 (C : sC) (w : sW) (a0 a1 : Int) : sg C mX12_letter 2000 0 [some (rV a0), some (iV a1)] [] w =
  if kd w a0 = 10 then
  wl (sv w a0 0 0) (fun w1 =>
  if kd w1 a0 = 10 then
  bI (C 222 w1 [rV a0, iV a1]) (fun x3 w2 =>
  if x3 = 0 then
   (some (.inr (some (iV (-1)), w2)))
  else
  if kd w2 a0 = 10 then
  if kd w2 (gv w2 a0 14) = 20 ∧ 0 ≤ (w32 (2616 + a1)) ∧ (w32 (2616 + a1)) < ln w2 (gv w2 a0 14) then
  some (.inr (some (iV (gv w2 (gv w2 a0 14) (w32 (2616 + a1)))), w2)) else none else none) else none) else none := by
  rfl
set_option maxRecDepth 100000 in
theorem eX12_count_0 (C : sC) (w : sW) (a0 a1 a2 : Int) : sg C mX12_count 2000 0 [some (rV a0), some (iV a1), some (iV a2), none, none] [] w =
  if kd w a0 = 10 then
  wl (sv w a0 0 0) (fun w1 =>
  bI (C 155 w1 [iV a1, iV 0, iV 7]) (fun x3 w2 =>
  if x3 = 0 then
   (some (.inr (some (iV (-1)), w2)))
  else
  if kd w2 a0 = 10 then
  if kd w2 (gv w2 a0 14) = 20 ∧ 0 ≤ (2615 : Int) ∧ (2615 : Int) < ln w2 (gv w2 a0 14) then
  bI (C 155 w2 [iV a2, iV 0, iV (gv w2 (gv w2 a0 14) 2615)]) (fun x5 w4 =>
  if x5 = 0 then
   (some (.inr (some (iV (-1)), w4)))
  else
  some (.inl (38, [some (rV a0), some (iV a1), some (iV a2), some (iV 0), some (iV 0)], [], w4))) else none else none)) else none := by
  rfl
set_option maxRecDepth 100000 in
theorem eX12_count_38 (C : sC) (w : sW) (a0 a1 a2 a3 a4 : Int) : sg C mX12_count 2000 38 [some (rV a0), some (iV a1), some (iV a2), some (iV a3), some (iV a4)] [] w =
  if a4 < a2 then
   (if kd w a0 = 10 then
   if kd w (gv w a0 14) = 20 ∧ 0 ≤ (w32 (2616 + a4)) ∧ (w32 (2616 + a4)) < ln w (gv w a0 14) then
   if (gv w (gv w a0 14) (w32 (2616 + a4))) = a1 then
    (some (.inl (38, [some (rV a0), some (iV a1), some (iV a2), some (iV (w32 (a3 + 1))), some (iV (w32 (a4 + 1)))], [], w)))
   else
   some (.inl (38, [some (rV a0), some (iV a1), some (iV a2), some (iV a3), some (iV (w32 (a4 + 1)))], [], w)) else none else none)
  else
  some (.inr (some (iV a3), w)) := by
  rfl
set_option maxRecDepth 100000 in
theorem eX12_place_0 (C : sC) (w : sW) (a0 a1 a2 : Int) : sg C mX12_place 2000 0 [some (rV a0), some (iV a1), some (iV a2), none, none] [] w =
  if kd w a0 = 10 then
  wl (sv w a0 0 0) (fun w1 =>
  bI (C 155 w1 [iV a1, iV 0, iV 7]) (fun x3 w2 =>
  if x3 = 0 then
   (some (.inr (some (iV (-1)), w2)))
  else
  if a2 < 0 then
   (some (.inr (some (iV (-1)), w2)))
  else
  some (.inl (26, [some (rV a0), some (iV a1), some (iV a2), some (iV 0), some (iV 0)], [], w2)))) else none := by
  rfl
set_option maxRecDepth 100000 in
theorem eX12_place_26 (C : sC) (w : sW) (a0 a1 a2 a3 a4 : Int) : sg C mX12_place 2000 26 [some (rV a0), some (iV a1), some (iV a2), some (iV a3), some (iV a4)] [] w =
  if kd w a0 = 10 then
  if kd w (gv w a0 14) = 20 ∧ 0 ≤ (2615 : Int) ∧ (2615 : Int) < ln w (gv w a0 14) then
  if a4 < (gv w (gv w a0 14) 2615) then
   (if kd w a0 = 10 then
   if kd w (gv w a0 14) = 20 ∧ 0 ≤ (w32 (2616 + a4)) ∧ (w32 (2616 + a4)) < ln w (gv w a0 14) then
   if (gv w (gv w a0 14) (w32 (2616 + a4))) = a1 then
    (if a3 = a2 then
     (some (.inr (some (iV a4), w)))
    else
    some (.inl (26, [some (rV a0), some (iV a1), some (iV a2), some (iV (w32 (a3 + 1))), some (iV (w32 (a4 + 1)))], [], w)))
   else
   some (.inl (26, [some (rV a0), some (iV a1), some (iV a2), some (iV a3), some (iV (w32 (a4 + 1)))], [], w)) else none else none)
  else
  some (.inr (some (iV (-1)), w)) else none else none := by
  rfl
set_option maxRecDepth 100000 in
theorem eX12_least_0 (C : sC) (w : sW) (a0 a1 a2 a3 : Int) : sg C mX12_least 2000 0 [some (rV a0), some (iV a1), some (iV a2), some (iV a3), none, none, none] [] w =
  if kd w a0 = 10 then
  wl (sv w a0 0 0) (fun w1 =>
  if a1 < 0 then
   (some (.inr (some (iV (-1)), w1)))
  else
  if kd w1 a0 = 10 then
  if kd w1 (gv w1 a0 14) = 20 ∧ 0 ≤ (2615 : Int) ∧ (2615 : Int) < ln w1 (gv w1 a0 14) then
  if (gv w1 (gv w1 a0 14) 2615) < a2 then
   (some (.inr (some (iV (-1)), w1)))
  else
  if a3 < 0 then
   (some (.inr (some (iV (-1)), w1)))
  else
  some (.inl (33, [some (rV a0), some (iV a1), some (iV a2), some (iV a3), some (iV 0), some (iV 0), none], [], w1)) else none else none) else none := by
  rfl
set_option maxRecDepth 100000 in
theorem eX12_least_33 (C : sC) (w : sW) (a0 a1 a2 a3 a4 a5 : Int) : sg C mX12_least 2000 33 [some (rV a0), some (iV a1), some (iV a2), some (iV a3), some (iV a4), some (iV a5), none] [] w =
  if a5 < 8 then
   (some (.inl (43, [some (rV a0), some (iV a1), some (iV a2), some (iV a3), some (iV a4), some (iV a5), some (iV a1)], [], w)))
  else
  some (.inr (some (iV (-1)), w)) := by
  rfl
set_option maxRecDepth 100000 in
theorem eX12_least_43 (C : sC) (w : sW) (a0 a1 a2 a3 a4 a5 a6 : Int) : sg C mX12_least 2000 43 [some (rV a0), some (iV a1), some (iV a2), some (iV a3), some (iV a4), some (iV a5), some (iV a6)] [] w =
  if a6 < a2 then
   (if kd w a0 = 10 then
   if kd w (gv w a0 14) = 20 ∧ 0 ≤ (w32 (2616 + a6)) ∧ (w32 (2616 + a6)) < ln w (gv w a0 14) then
   if (gv w (gv w a0 14) (w32 (2616 + a6))) = a5 then
    (some (.inl (43, [some (rV a0), some (iV a1), some (iV a2), some (iV a3), some (iV (w32 (a4 + 1))), some (iV a5), some (iV (w32 (a6 + 1)))], [], w)))
   else
   some (.inl (43, [some (rV a0), some (iV a1), some (iV a2), some (iV a3), some (iV a4), some (iV a5), some (iV (w32 (a6 + 1)))], [], w)) else none else none)
  else
  if a3 < a4 then
   (some (.inr (some (iV a5), w)))
  else
  some (.inl (33, [some (rV a0), some (iV a1), some (iV a2), some (iV a3), some (iV a4), some (iV (w32 (a5 + 1))), none], [], w)) := by
  rfl
set_option maxRecDepth 100000 in
theorem eX12_isInNode_0 (C : sC) (w : sW) (a0 a1 : Int) : sg C mX12_isInNode 2000 0 [some (iV a0), some (iV a1)] [] w =
  if a0 = 0 then
   (some (.inr (some (iV 1), w)))
  else
  if a0 < 3 then
   (if (4 : Int) = 0 then none else
   if (w32 (Int.tdiv a1 4)) = (w32 (a0 - 1)) then
    (some (.inr (some (iV 1), w)))
   else
   if 2 < a0 then
    (if (2 : Int) = 0 then none else
    if (w32 (Int.tdiv a1 2)) = (w32 (a0 - 3)) then
     (some (.inr (some (iV 1), w)))
    else
    some (.inr (some (iV 0), w)))
   else
   some (.inr (some (iV 0), w)))
  else
  if 2 < a0 then
   (if (2 : Int) = 0 then none else
   if (w32 (Int.tdiv a1 2)) = (w32 (a0 - 3)) then
    (some (.inr (some (iV 1), w)))
   else
   some (.inr (some (iV 0), w)))
  else
  some (.inr (some (iV 0), w)) := by
  rfl
set_option maxRecDepth 100000 in
theorem eX12_node_0 (C : sC) (w : sW) (a0 a1 a2 : Int) : sg C mX12_node 2000 0 [some (rV a0), some (iV a1), some (iV a2), none, none, none] [] w =
  if kd w a0 = 10 then
  wl (sv w a0 0 0) (fun w1 =>
  bI (C 155 w1 [iV a1, iV 0, iV 6]) (fun x3 w2 =>
  if x3 = 0 then
   (some (.inr (some (iV (-1)), w2)))
  else
  if a2 < 0 then
   (some (.inr (some (iV (-1)), w2)))
  else
  some (.inl (26, [some (rV a0), some (iV a1), some (iV a2), some (iV 0), some (iV 0), none], [], w2)))) else none := by
  rfl
set_option maxRecDepth 100000 in
theorem eX12_node_26 (C : sC) (w : sW) (a0 a1 a2 a3 a4 : Int) : sg C mX12_node 2000 26 [some (rV a0), some (iV a1), some (iV a2), some (iV a3), some (iV a4), none] [] w =
  if kd w a0 = 10 then
  if kd w (gv w a0 14) = 20 ∧ 0 ≤ (2615 : Int) ∧ (2615 : Int) < ln w (gv w a0 14) then
  if a4 < (gv w (gv w a0 14) 2615) then
   (if kd w a0 = 10 then
   if kd w (gv w a0 14) = 20 ∧ 0 ≤ (w32 (2616 + a4)) ∧ (w32 (2616 + a4)) < ln w (gv w a0 14) then
   bI (C 228 w [iV a1, iV (gv w (gv w a0 14) (w32 (2616 + a4)))]) (fun x2 w1 =>
   if x2 = 0 then
    (some (.inl (26, [some (rV a0), some (iV a1), some (iV a2), some (iV a3), some (iV (w32 (a4 + 1))), none], [], w1)))
   else
   if a3 = a2 then
    (if a1 = 0 then
     (some (.inr (some (iV (f_iand (f_ishr (gv w (gv w a0 14) (w32 (2616 + a4))) 2) 1)), w1)))
    else
    if a1 < 3 then
     (some (.inr (some (iV (f_iand (f_ishr (gv w (gv w a0 14) (w32 (2616 + a4))) 1) 1)), w1)))
    else
    some (.inr (some (iV (f_iand (f_ishr (gv w (gv w a0 14) (w32 (2616 + a4))) 0) 1)), w1)))
   else
   some (.inl (26, [some (rV a0), some (iV a1), some (iV a2), some (iV (w32 (a3 + 1))), some (iV (w32 (a4 + 1))), none], [], w1))) else none else none)
  else
  some (.inr (some (iV (-1)), w)) else none else none := by
  rfl
set_option maxRecDepth 100000 in
theorem eX12_save_0 (C : sC) (w : sW) (a0 a1 a2 : Int) : sg C mX12_save 2000 0 [some (rV a0), some (rV a1), some (iV a2), none] [] w =
  some (.inl (2, [some (rV a0), some (rV a1), some (iV a2), some (iV 0)], [], w)) := by
  rfl
set_option maxRecDepth 100000 in
theorem eX12_save_2 (C : sC) (w : sW) (a0 a1 a2 a3 : Int) : sg C mX12_save 2000 2 [some (rV a0), some (rV a1), some (iV a2), some (iV a3)] [] w =
  if a3 < 3213 then
   (if kd w a0 = 10 then
   if kd w (gv w a0 14) = 20 ∧ 0 ≤ (w32 (2607 + a3)) ∧ (w32 (2607 + a3)) < ln w (gv w a0 14) then
   if (kd w a1 = 20 ∧ 32 ≤ a1) ∧ 0 ≤ (w32 (a2 + a3)) ∧ (w32 (a2 + a3)) < ln w a1 then
   wl (sv w a1 (w32 (a2 + a3)) (gv w (gv w a0 14) (w32 (2607 + a3)))) (fun w1 =>
   some (.inl (2, [some (rV a0), some (rV a1), some (iV a2), some (iV (w32 (a3 + 1)))], [], w1))) else none else none else none)
  else
  some (.inr (none, w)) := by
  rfl
set_option maxRecDepth 100000 in
theorem eX12_comeBack_0 (C : sC) (w : sW) (a0 a1 a2 : Int) : sg C mX12_comeBack 2000 0 [some (rV a0), some (rV a1), some (iV a2), none] [] w =
  some (.inl (2, [some (rV a0), some (rV a1), some (iV a2), some (iV 0)], [], w)) := by
  rfl
set_option maxRecDepth 100000 in
theorem eX12_comeBack_2 (C : sC) (w : sW) (a0 a1 a2 a3 : Int) : sg C mX12_comeBack 2000 2 [some (rV a0), some (rV a1), some (iV a2), some (iV a3)] [] w =
  if a3 < 3213 then
   (if kd w a0 = 10 then
   if kd w a1 = 20 ∧ 0 ≤ (w32 (a2 + a3)) ∧ (w32 (a2 + a3)) < ln w a1 then
   if (kd w (gv w a0 14) = 20 ∧ 32 ≤ (gv w a0 14)) ∧ 0 ≤ (w32 (2607 + a3)) ∧ (w32 (2607 + a3)) < ln w (gv w a0 14) then
   wl (sv w (gv w a0 14) (w32 (2607 + a3)) (gv w a1 (w32 (a2 + a3)))) (fun w1 =>
   some (.inl (2, [some (rV a0), some (rV a1), some (iV a2), some (iV (w32 (a3 + 1)))], [], w1))) else none else none else none)
  else
  some (.inr (none, w)) := by
  rfl
set_option maxRecDepth 100000 in
theorem eX12_snap_0 (C : sC) (w : sW) (a0 : Int) : sg C mX12_snap 2000 0 [some (rV a0), none] [] w =
  if kd w a0 = 10 then
  if (gv w a0 24) = 8 then
   (some (.inl (11, [some (rV a0), some (iV 0)], [], w)))
  else
  if kd w a0 = 10 then
  if kd w a0 = 10 then
  if kd w a0 = 10 then
  bN (C 230 w [rV a0, rV (gv w a0 17), iV (w32 (3213 * (gv w a0 24)))]) (fun w1 =>
  if kd w1 a0 = 10 then
  if kd w1 a0 = 10 then
  wl (sv w1 a0 24 (w32 ((gv w1 a0 24) + 1))) (fun w2 =>
  some (.inr (none, w2))) else none else none) else none else none else none else none := by
  rfl
set_option maxRecDepth 100000 in
theorem eX12_snap_11 (C : sC) (w : sW) (a0 a1 : Int) : sg C mX12_snap 2000 11 [some (rV a0), some (iV a1)] [] w =
  if a1 < 22491 then
   (if kd w a0 = 10 then
   if kd w a0 = 10 then
   if kd w (gv w a0 17) = 20 ∧ 0 ≤ (w32 (a1 + 3213)) ∧ (w32 (a1 + 3213)) < ln w (gv w a0 17) then
   if (kd w (gv w a0 17) = 20 ∧ 32 ≤ (gv w a0 17)) ∧ 0 ≤ a1 ∧ a1 < ln w (gv w a0 17) then
   wl (sv w (gv w a0 17) a1 (gv w (gv w a0 17) (w32 (a1 + 3213)))) (fun w1 =>
   some (.inl (11, [some (rV a0), some (iV (w32 (a1 + 1)))], [], w1))) else none else none else none else none)
  else
  if kd w a0 = 10 then
  if kd w a0 = 10 then
  wl (sv w a0 24 (w32 ((gv w a0 24) - 1))) (fun w2 =>
  if kd w2 a0 = 10 then
  if kd w2 a0 = 10 then
  if kd w2 a0 = 10 then
  bN (C 230 w2 [rV a0, rV (gv w2 a0 17), iV (w32 (3213 * (gv w2 a0 24)))]) (fun w3 =>
  if kd w3 a0 = 10 then
  if kd w3 a0 = 10 then
  wl (sv w3 a0 24 (w32 ((gv w3 a0 24) + 1))) (fun w4 =>
  some (.inr (none, w4))) else none else none) else none else none else none) else none else none := by
  rfl
set_option maxRecDepth 100000 in
theorem eX12_areThere_0 (C : sC) (w : sW) (a0 a1 a2 : Int) : sg C mX12_areThere 2000 0 [some (iV a0), some (iV a1), some (iV a2)] [] w =
  if a0 < 0 then
   (some (.inr (some (iV 0), w)))
  else
  if a2 < a1 then
   (some (.inr (some (iV 0), w)))
  else
  if (w32 (a2 - a1)) < a0 then
   (some (.inr (some (iV 0), w)))
  else
  some (.inr (some (iV 1), w)) := by
  rfl
set_option maxRecDepth 100000 in
theorem eX12_whyPut_0 (C : sC) (w : sW) (a0 a1 a2 a3 : Int) : sg C mX12_whyPut 2000 0 [some (rV a0), some (iV a1), some (iV a2), some (iV a3)] [] w =
  if kd w a0 = 10 then
  bI (C 180 w [rV a0, iV a1]) (fun x2 w1 =>
  bI (C 155 w1 [iV a2, iV 0, iV x2]) (fun x4 w3 =>
  if x4 = 0 then
   (some (.inr (some (iV 1), w3)))
  else
  if kd w3 a0 = 10 then
  bI (C 180 w3 [rV a0, iV a1]) (fun x6 w5 =>
  if 600 < (w32 (x6 + a3)) then
   (some (.inr (some (iV 2), w5)))
  else
  some (.inr (some (iV 0), w5))) else none)) else none := by
  rfl
set_option maxRecDepth 100000 in
theorem eX12_refusal_0 (C : sC) (w : sW) (a0 a1 a2 a3 a4 : Int) : sg C mX12_refusal 2000 0 [some (rV a0), some (iV a1), some (iV a2), some (iV a3), some (iV a4)] [] w =
  if a1 = 0 then
   (if kd w a0 = 10 then
   bI (C 234 w [rV a0, iV a2, iV a3, iV 1]) (fun x2 w1 =>
   some (.inr (some (iV x2), w1))) else none)
  else if a1 = 1 then
   (if kd w a0 = 10 then
   bI (C 190 w [rV a0, iV a2, iV a3]) (fun x4 w3 =>
   if x4 = 0 then
    (some (.inr (some (iV 1), w3)))
   else
   if kd w3 a0 = 10 then
   bI (C 181 w3 [rV a0, iV a2, iV a3]) (fun x6 w5 =>
   if x6 = a4 then
    (some (.inr (some (iV 2), w5)))
   else
   some (.inr (some (iV 0), w5))) else none) else none)
  else if a1 = 2 then
   (if kd w a0 = 10 then
   bI (C 180 w [rV a0, iV a2]) (fun x8 w7 =>
   bI (C 233 w7 [iV a3, iV a4, iV x8]) (fun x10 w9 =>
   if x10 = 0 then
    (some (.inr (some (iV 1), w9)))
   else
   some (.inr (some (iV 0), w9)))) else none)
  else if a1 = 3 then
   (if kd w a0 = 10 then
   bI (C 180 w [rV a0, iV a2]) (fun x12 w11 =>
   bI (C 233 w11 [iV a3, iV a4, iV x12]) (fun x14 w13 =>
   if x14 = 0 then
    (some (.inr (some (iV 1), w13)))
   else
   some (.inr (some (iV 0), w13)))) else none)
  else if a1 = 4 then
   (if kd w a0 = 10 then
   bI (C 180 w [rV a0, iV a4]) (fun x16 w15 =>
   if x16 = 0 then
    (some (.inr (some (iV 1), w15)))
   else
   if kd w15 a0 = 10 then
   bI (C 180 w15 [rV a0, iV a2]) (fun x18 w17 =>
   if kd w17 a0 = 10 then
   bI (C 180 w17 [rV a0, iV a4]) (fun x20 w19 =>
   if 600 < (w32 (x18 + x20)) then
    (some (.inr (some (iV 2), w19)))
   else
   some (.inr (some (iV 0), w19))) else none) else none) else none)
  else if a1 = 5 then
   (if kd w a0 = 10 then
   bI (C 190 w [rV a0, iV a2, iV a3]) (fun x22 w21 =>
   if x22 = 0 then
    (some (.inr (some (iV 1), w21)))
   else
   if kd w21 a0 = 10 then
   bI (C 180 w21 [rV a0, iV a4]) (fun x24 w23 =>
   if kd w23 a0 = 10 then
   bI (C 180 w23 [rV a0, iV a2]) (fun x26 w25 =>
   if 600 < (w32 ((w32 (x24 + x26)) - a3)) then
    (some (.inr (some (iV 2), w25)))
   else
   some (.inr (some (iV 0), w25))) else none) else none) else none)
  else if a1 = 6 then
   (if kd w a0 = 10 then
   if kd w (gv w a0 14) = 20 ∧ 0 ≤ (2615 : Int) ∧ (2615 : Int) < ln w (gv w a0 14) then
   bI (C 155 w [iV a3, iV 0, iV (gv w (gv w a0 14) 2615)]) (fun x28 w27 =>
   if x28 = 0 then
    (some (.inr (some (iV 1), w27)))
   else
   if kd w27 a0 = 10 then
   if kd w27 (gv w27 a0 14) = 20 ∧ 0 ≤ (2615 : Int) ∧ (2615 : Int) < ln w27 (gv w27 a0 14) then
   if (gv w27 (gv w27 a0 14) 2615) = 200 then
    (some (.inr (some (iV 2), w27)))
   else
   some (.inr (some (iV 0), w27)) else none else none) else none else none)
  else if kd w a0 = 10 then
  if kd w (gv w a0 14) = 20 ∧ 0 ≤ (2615 : Int) ∧ (2615 : Int) < ln w (gv w a0 14) then
  bI (C 233 w [iV a3, iV a4, iV (gv w (gv w a0 14) 2615)]) (fun x30 w29 =>
  if x30 = 0 then
   (some (.inr (some (iV 1), w29)))
  else
  some (.inr (some (iV 0), w29))) else none else none := by
  rfl
set_option maxRecDepth 100000 in
theorem eX12_live_0 (C : sC) (w : sW) (a0 a1 a2 a3 a4 : Int) : sg C mX12_live 2000 0 [some (rV a0), some (iV a1), some (iV a2), some (iV a3), some (iV a4), none] [] w =
  if a1 = 0 then
   (if kd w a0 = 10 then
   bN (C 185 w [rV a0, iV a2, iV a3, iV a4]) (fun w1 =>
   some (.inr (none, w1))) else none)
  else if a1 = 1 then
   (if kd w a0 = 10 then
   if (kd w (gv w a0 14) = 20 ∧ 32 ≤ (gv w a0 14)) ∧ 0 ≤ (w32 ((w32 (3420 + (w32 (600 * a2)))) + a3)) ∧ (w32 ((w32 (3420 + (w32 (600 * a2)))) + a3)) < ln w (gv w a0 14) then
   wl (sv w (gv w a0 14) (w32 ((w32 (3420 + (w32 (600 * a2)))) + a3)) a4) (fun w2 =>
   some (.inr (none, w2))) else none else none)
  else if a1 = 2 then
   (some (.inl (75, [some (rV a0), none, some (iV a2), some (iV a3), some (iV a4), some (iV 0)], [], w)))
  else if a1 = 3 then
   (some (.inl (98, [some (rV a0), none, some (iV a2), some (iV a3), some (iV a4), some (iV a3)], [], w)))
  else if a1 = 4 then
   (if kd w a0 = 10 then
   bN (C 237 w [rV a0, iV a4, iV 0, iV a2]) (fun w3 =>
   some (.inr (none, w3))) else none)
  else if a1 = 5 then
   (if kd w a0 = 10 then
   bN (C 237 w [rV a0, iV a2, iV a3, iV a4]) (fun w4 =>
   some (.inr (none, w4))) else none)
  else if a1 = 6 then
   (if kd w a0 = 10 then
   if kd w (gv w a0 14) = 20 ∧ 0 ≤ (2615 : Int) ∧ (2615 : Int) < ln w (gv w a0 14) then
   some (.inl (168, [some (rV a0), none, none, some (iV a3), some (iV a4), some (iV (gv w (gv w a0 14) 2615))], [], w)) else none else none)
  else if kd w a0 = 10 then
  if kd w (gv w a0 14) = 20 ∧ 0 ≤ (2615 : Int) ∧ (2615 : Int) < ln w (gv w a0 14) then
  if (kd w (gv w a0 14) = 20 ∧ 32 ≤ (gv w a0 14)) ∧ 0 ≤ (2615 : Int) ∧ (2615 : Int) < ln w (gv w a0 14) then
  wl (sv w (gv w a0 14) 2615 (w32 ((gv w (gv w a0 14) 2615) - a4))) (fun w5 =>
  some (.inl (245, [some (rV a0), none, none, none, some (iV a4), some (iV a3)], [], w5))) else none else none else none := by
  rfl
set_option maxRecDepth 100000 in
theorem eX12_live_75 (C : sC) (w : sW) (a0 a2 a3 a4 a5 : Int) : sg C mX12_live 2000 75 [some (rV a0), none, some (iV a2), some (iV a3), some (iV a4), some (iV a5)] [] w =
  if a5 < a4 then
   (if kd w a0 = 10 then
   bN (C 187 w [rV a0, iV a2, iV a3]) (fun w1 =>
   some (.inl (75, [some (rV a0), none, some (iV a2), some (iV a3), some (iV a4), some (iV (w32 (a5 + 1)))], [], w1))) else none)
  else
  some (.inr (none, w)) := by
  rfl
set_option maxRecDepth 100000 in
theorem eX12_live_98 (C : sC) (w : sW) (a0 a2 a3 a4 a5 : Int) : sg C mX12_live 2000 98 [some (rV a0), none, some (iV a2), some (iV a3), some (iV a4), some (iV a5)] [] w =
  if a5 < (w32 (a3 + a4)) then
   (if kd w a0 = 10 then
   if kd w a0 = 10 then
   bI (C 181 w [rV a0, iV a2, iV a5]) (fun x2 w1 =>
   if (kd w1 (gv w a0 14) = 20 ∧ 32 ≤ (gv w a0 14)) ∧ 0 ≤ (w32 ((w32 (3420 + (w32 (600 * a2)))) + a5)) ∧ (w32 ((w32 (3420 + (w32 (600 * a2)))) + a5)) < ln w1 (gv w a0 14) then
   wl (sv w1 (gv w a0 14) (w32 ((w32 (3420 + (w32 (600 * a2)))) + a5)) (w32 (1 - x2))) (fun w3 =>
   some (.inl (98, [some (rV a0), none, some (iV a2), some (iV a3), some (iV a4), some (iV (w32 (a5 + 1)))], [], w3))) else none) else none else none)
  else
  some (.inr (none, w)) := by
  rfl
set_option maxRecDepth 100000 in
theorem eX12_live_168 (C : sC) (w : sW) (a0 a3 a4 a5 : Int) : sg C mX12_live 2000 168 [some (rV a0), none, none, some (iV a3), some (iV a4), some (iV a5)] [] w =
  if a3 < a5 then
   (if kd w a0 = 10 then
   if kd w a0 = 10 then
   if kd w (gv w a0 14) = 20 ∧ 0 ≤ (w32 ((w32 (2616 + a5)) - 1)) ∧ (w32 ((w32 (2616 + a5)) - 1)) < ln w (gv w a0 14) then
   if (kd w (gv w a0 14) = 20 ∧ 32 ≤ (gv w a0 14)) ∧ 0 ≤ (w32 (2616 + a5)) ∧ (w32 (2616 + a5)) < ln w (gv w a0 14) then
   wl (sv w (gv w a0 14) (w32 (2616 + a5)) (gv w (gv w a0 14) (w32 ((w32 (2616 + a5)) - 1)))) (fun w1 =>
   some (.inl (168, [some (rV a0), none, none, some (iV a3), some (iV a4), some (iV (w32 (a5 + (-1))))], [], w1))) else none else none else none else none)
  else
  if kd w a0 = 10 then
  if (kd w (gv w a0 14) = 20 ∧ 32 ≤ (gv w a0 14)) ∧ 0 ≤ (w32 (2616 + a3)) ∧ (w32 (2616 + a3)) < ln w (gv w a0 14) then
  wl (sv w (gv w a0 14) (w32 (2616 + a3)) a4) (fun w2 =>
  if kd w2 a0 = 10 then
  if kd w2 (gv w2 a0 14) = 20 ∧ 0 ≤ (2615 : Int) ∧ (2615 : Int) < ln w2 (gv w2 a0 14) then
  if (kd w2 (gv w2 a0 14) = 20 ∧ 32 ≤ (gv w2 a0 14)) ∧ 0 ≤ (2615 : Int) ∧ (2615 : Int) < ln w2 (gv w2 a0 14) then
  wl (sv w2 (gv w2 a0 14) 2615 (w32 ((gv w2 (gv w2 a0 14) 2615) + 1))) (fun w3 =>
  some (.inr (none, w3))) else none else none else none) else none else none := by
  rfl
set_option maxRecDepth 100000 in
theorem eX12_live_245 (C : sC) (w : sW) (a0 a4 a5 : Int) : sg C mX12_live 2000 245 [some (rV a0), none, none, none, some (iV a4), some (iV a5)] [] w =
  if a5 < 200 then
   (if kd w a0 = 10 then
   if kd w a0 = 10 then
   if kd w (gv w a0 14) = 20 ∧ 0 ≤ (2615 : Int) ∧ (2615 : Int) < ln w (gv w a0 14) then
   if a5 < (gv w (gv w a0 14) 2615) then
    (if kd w a0 = 10 then
    if kd w (gv w a0 14) = 20 ∧ 0 ≤ (w32 ((w32 (2616 + a5)) + a4)) ∧ (w32 ((w32 (2616 + a5)) + a4)) < ln w (gv w a0 14) then
    if (kd w (gv w a0 14) = 20 ∧ 32 ≤ (gv w a0 14)) ∧ 0 ≤ (w32 (2616 + a5)) ∧ (w32 (2616 + a5)) < ln w (gv w a0 14) then
    wl (sv w (gv w a0 14) (w32 (2616 + a5)) (gv w (gv w a0 14) (w32 ((w32 (2616 + a5)) + a4)))) (fun w1 =>
    some (.inl (245, [some (rV a0), none, none, none, some (iV a4), some (iV (w32 (a5 + 1)))], [], w1))) else none else none else none)
   else
   if (kd w (gv w a0 14) = 20 ∧ 32 ≤ (gv w a0 14)) ∧ 0 ≤ (w32 (2616 + a5)) ∧ (w32 (2616 + a5)) < ln w (gv w a0 14) then
   wl (sv w (gv w a0 14) (w32 (2616 + a5)) 0) (fun w2 =>
   some (.inl (245, [some (rV a0), none, none, none, some (iV a4), some (iV (w32 (a5 + 1)))], [], w2))) else none else none else none else none)
  else
  some (.inr (none, w)) := by
  rfl
set_option maxRecDepth 100000 in
theorem eX12_moves_0 (C : sC) (w : sW) (a0 a1 a2 a3 : Int) : sg C mX12_moves 2000 0 [some (rV a0), some (iV a1), some (iV a2), some (iV a3), none, none] [] w =
  if kd w a0 = 10 then
  bI (C 180 w [rV a0, iV a1]) (fun x2 w1 =>
  some (.inl (12, [some (rV a0), some (iV a1), some (iV a2), some (iV a3), some (iV (w32 (x2 - a2))), some (iV 0)], [], w1))) else none := by
  rfl
set_option maxRecDepth 100000 in
theorem eX12_moves_12 (C : sC) (w : sW) (a0 a1 a2 a3 a4 a5 : Int) : sg C mX12_moves 2000 12 [some (rV a0), some (iV a1), some (iV a2), some (iV a3), some (iV a4), some (iV a5)] [] w =
  if a5 < a4 then
   (if kd w a0 = 10 then
   bI (C 180 w [rV a0, iV a3]) (fun x2 w1 =>
   if kd w1 a0 = 10 then
   bI (C 181 w1 [rV a0, iV a1, iV (w32 (a2 + a5))]) (fun x4 w3 =>
   if kd w3 a0 = 10 then
   bN (C 185 w3 [rV a0, iV a3, iV x2, iV x4]) (fun w5 =>
   some (.inl (12, [some (rV a0), some (iV a1), some (iV a2), some (iV a3), some (iV a4), some (iV (w32 (a5 + 1)))], [], w5))) else none) else none) else none)
  else
  some (.inl (47, [some (rV a0), some (iV a1), some (iV a2), none, some (iV a4), some (iV 0)], [], w)) := by
  rfl
set_option maxRecDepth 100000 in
theorem eX12_moves_47 (C : sC) (w : sW) (a0 a1 a2 a4 a5 : Int) : sg C mX12_moves 2000 47 [some (rV a0), some (iV a1), some (iV a2), none, some (iV a4), some (iV a5)] [] w =
  if a5 < a4 then
   (if kd w a0 = 10 then
   bN (C 187 w [rV a0, iV a1, iV a2]) (fun w1 =>
   some (.inl (47, [some (rV a0), some (iV a1), some (iV a2), none, some (iV a4), some (iV (w32 (a5 + 1)))], [], w1))) else none)
  else
  some (.inr (none, w)) := by
  rfl
set_option maxRecDepth 100000 in
theorem eX12_act_0 (C : sC) (w : sW) (a0 a1 a2 a3 a4 a5 : Int) : sg C mX12_act 2000 0 [some (rV a0), some (iV a1), some (iV a2), some (iV a3), some (iV a4), some (iV a5), none] [] w =
  if a5 = 0 then
   (some (.inr (some (iV (-1)), w)))
  else
  if kd w a0 = 10 then
  bI (C 235 w [rV a0, iV a1, iV a2, iV a3, iV a4]) (fun x2 w1 =>
  if x2 = 0 then
   (if kd w1 a0 = 10 then
   bN (C 232 w1 [rV a0]) (fun w3 =>
   if kd w3 a0 = 10 then
   bN (C 236 w3 [rV a0, iV a1, iV a2, iV a3, iV a4]) (fun w4 =>
   some (.inr (some (iV 0), w4))) else none) else none)
  else
  some (.inr (some (iV x2), w1))) else none := by
  rfl
set_option maxRecDepth 100000 in
theorem eX12_put_0 (C : sC) (w : sW) (a0 a1 a2 a3 : Int) : sg C mX12_put 2000 0 [some (rV a0), some (iV a1), some (iV a2), some (iV a3)] [] w =
  if kd w a0 = 10 then
  wl (sv w a0 0 0) (fun w1 =>
  if kd w1 a0 = 10 then
  bI (C 188 w1 [rV a0, iV a1]) (fun x3 w2 =>
  if x3 = 0 then
   (if kd w2 a0 = 10 then
   bI (C 238 w2 [rV a0, iV 0, iV a1, iV a2, iV a3, iV 0]) (fun x5 w4 =>
   some (.inr (some (iV x5), w4))) else none)
  else
  if kd w2 a0 = 10 then
  bI (C 189 w2 [rV a0, iV a3]) (fun x7 w6 =>
  if x7 = 0 then
   (if kd w6 a0 = 10 then
   bI (C 238 w6 [rV a0, iV 0, iV a1, iV a2, iV a3, iV 0]) (fun x9 w8 =>
   some (.inr (some (iV x9), w8))) else none)
  else
  if kd w6 a0 = 10 then
  bI (C 238 w6 [rV a0, iV 0, iV a1, iV a2, iV a3, iV 1]) (fun x11 w10 =>
  some (.inr (some (iV x11), w10))) else none) else none) else none) else none := by
  rfl
set_option maxRecDepth 100000 in
theorem eX12_set_0 (C : sC) (w : sW) (a0 a1 a2 a3 : Int) : sg C mX12_set 2000 0 [some (rV a0), some (iV a1), some (iV a2), some (iV a3)] [] w =
  if kd w a0 = 10 then
  wl (sv w a0 0 0) (fun w1 =>
  if kd w1 a0 = 10 then
  bI (C 188 w1 [rV a0, iV a1]) (fun x3 w2 =>
  if x3 = 0 then
   (if kd w2 a0 = 10 then
   bI (C 238 w2 [rV a0, iV 1, iV a1, iV a2, iV a3, iV 0]) (fun x5 w4 =>
   some (.inr (some (iV x5), w4))) else none)
  else
  if kd w2 a0 = 10 then
  bI (C 189 w2 [rV a0, iV a3]) (fun x7 w6 =>
  if x7 = 0 then
   (if kd w6 a0 = 10 then
   bI (C 238 w6 [rV a0, iV 1, iV a1, iV a2, iV a3, iV 0]) (fun x9 w8 =>
   some (.inr (some (iV x9), w8))) else none)
  else
  if kd w6 a0 = 10 then
  bI (C 238 w6 [rV a0, iV 1, iV a1, iV a2, iV a3, iV 1]) (fun x11 w10 =>
  some (.inr (some (iV x11), w10))) else none) else none) else none) else none := by
  rfl
set_option maxRecDepth 100000 in
theorem eX12_cut_0 (C : sC) (w : sW) (a0 a1 a2 a3 : Int) : sg C mX12_cut 2000 0 [some (rV a0), some (iV a1), some (iV a2), some (iV a3)] [] w =
  if kd w a0 = 10 then
  wl (sv w a0 0 0) (fun w1 =>
  if kd w1 a0 = 10 then
  bI (C 188 w1 [rV a0, iV a1]) (fun x3 w2 =>
  if x3 = 0 then
   (if kd w2 a0 = 10 then
   bI (C 238 w2 [rV a0, iV 2, iV a1, iV a2, iV a3, iV 0]) (fun x5 w4 =>
   some (.inr (some (iV x5), w4))) else none)
  else
  bI (C 155 w2 [iV a3, iV 1, iV 600]) (fun x7 w6 =>
  if x7 = 0 then
   (if kd w6 a0 = 10 then
   bI (C 238 w6 [rV a0, iV 2, iV a1, iV a2, iV a3, iV 0]) (fun x9 w8 =>
   some (.inr (some (iV x9), w8))) else none)
  else
  if kd w6 a0 = 10 then
  bI (C 238 w6 [rV a0, iV 2, iV a1, iV a2, iV a3, iV 1]) (fun x11 w10 =>
  some (.inr (some (iV x11), w10))) else none)) else none) else none := by
  rfl
set_option maxRecDepth 100000 in
theorem eX12_turn_0 (C : sC) (w : sW) (a0 a1 a2 a3 : Int) : sg C mX12_turn 2000 0 [some (rV a0), some (iV a1), some (iV a2), some (iV a3)] [] w =
  if kd w a0 = 10 then
  wl (sv w a0 0 0) (fun w1 =>
  if kd w1 a0 = 10 then
  bI (C 188 w1 [rV a0, iV a1]) (fun x3 w2 =>
  if x3 = 0 then
   (if kd w2 a0 = 10 then
   bI (C 238 w2 [rV a0, iV 3, iV a1, iV a2, iV a3, iV 0]) (fun x5 w4 =>
   some (.inr (some (iV x5), w4))) else none)
  else
  bI (C 155 w2 [iV a3, iV 1, iV 600]) (fun x7 w6 =>
  if x7 = 0 then
   (if kd w6 a0 = 10 then
   bI (C 238 w6 [rV a0, iV 3, iV a1, iV a2, iV a3, iV 0]) (fun x9 w8 =>
   some (.inr (some (iV x9), w8))) else none)
  else
  if kd w6 a0 = 10 then
  bI (C 238 w6 [rV a0, iV 3, iV a1, iV a2, iV a3, iV 1]) (fun x11 w10 =>
  some (.inr (some (iV x11), w10))) else none)) else none) else none := by
  rfl
set_option maxRecDepth 100000 in
theorem eX12_paste_0 (C : sC) (w : sW) (a0 a1 a2 : Int) : sg C mX12_paste 2000 0 [some (rV a0), some (iV a1), some (iV a2), none, none, none] [] w =
  if kd w a0 = 10 then
  wl (sv w a0 0 0) (fun w1 =>
  if kd w1 a0 = 10 then
  bI (C 154 w1 [rV a0]) (fun x3 w2 =>
  if kd w2 a0 = 10 then
  bI (C 188 w2 [rV a0, iV a1]) (fun x5 w4 =>
  if x5 = 0 then
   (some (.inr (some (iV (-1)), w4)))
  else
  if kd w4 a0 = 10 then
  bI (C 219 w4 [rV a0, iV x3, iV 64]) (fun x7 w6 =>
  if x7 = 0 then
   (some (.inr (some (iV (-1)), w6)))
  else
  if kd w6 a0 = 10 then
  bI (C 234 w6 [rV a0, iV a1, iV a2, iV x3]) (fun x9 w8 =>
  if x9 = 0 then
   (if kd w8 a0 = 10 then
   bN (C 232 w8 [rV a0]) (fun w10 =>
   some (.inl (54, [some (rV a0), some (iV a1), some (iV a2), some (iV x3), none, some (iV 0)], [], w10))) else none)
  else
  some (.inr (some (iV x9), w8))) else none) else none) else none) else none) else none := by
  rfl
set_option maxRecDepth 100000 in
theorem eX12_paste_54 (C : sC) (w : sW) (a0 a1 a2 a3 a5 : Int) : sg C mX12_paste 2000 54 [some (rV a0), some (iV a1), some (iV a2), some (iV a3), none, some (iV a5)] [] w =
  if a5 < a3 then
   (if kd w a0 = 10 then
   if kd w (gv w a0 1) = 20 ∧ 0 ≤ a5 ∧ a5 < ln w (gv w a0 1) then
   if kd w a0 = 10 then
   bN (C 185 w [rV a0, iV a1, iV (w32 (a2 + a5)), iV (gv w (gv w a0 1) a5)]) (fun w1 =>
   some (.inl (54, [some (rV a0), some (iV a1), some (iV a2), some (iV a3), none, some (iV (w32 (a5 + 1)))], [], w1))) else none else none else none)
  else
  some (.inr (some (iV 0), w)) := by
  rfl
set_option maxRecDepth 100000 in
theorem eX12_areTwo_0 (C : sC) (w : sW) (a0 a1 a2 : Int) : sg C mX12_areTwo 2000 0 [some (rV a0), some (iV a1), some (iV a2)] [] w =
  if kd w a0 = 10 then
  bI (C 188 w [rV a0, iV a1]) (fun x2 w1 =>
  if x2 = 0 then
   (some (.inr (some (iV 0), w1)))
  else
  if kd w1 a0 = 10 then
  bI (C 188 w1 [rV a0, iV a2]) (fun x4 w3 =>
  if x4 = 0 then
   (some (.inr (some (iV 0), w3)))
  else
  if a1 = a2 then
   (some (.inr (some (iV 0), w3)))
  else
  some (.inr (some (iV 1), w3))) else none) else none := by
  rfl
set_option maxRecDepth 100000 in
theorem eX12_join_0 (C : sC) (w : sW) (a0 a1 a2 : Int) : sg C mX12_join 2000 0 [some (rV a0), some (iV a1), some (iV a2)] [] w =
  if kd w a0 = 10 then
  wl (sv w a0 0 0) (fun w1 =>
  if kd w1 a0 = 10 then
  bI (C 244 w1 [rV a0, iV a1, iV a2]) (fun x3 w2 =>
  if kd w2 a0 = 10 then
  bI (C 238 w2 [rV a0, iV 4, iV a1, iV 0, iV a2, iV x3]) (fun x5 w4 =>
  some (.inr (some (iV x5), w4))) else none) else none) else none := by
  rfl
set_option maxRecDepth 100000 in
theorem eX12_split_0 (C : sC) (w : sW) (a0 a1 a2 a3 : Int) : sg C mX12_split 2000 0 [some (rV a0), some (iV a1), some (iV a2), some (iV a3)] [] w =
  if kd w a0 = 10 then
  wl (sv w a0 0 0) (fun w1 =>
  if kd w1 a0 = 10 then
  bI (C 244 w1 [rV a0, iV a1, iV a3]) (fun x3 w2 =>
  if kd w2 a0 = 10 then
  bI (C 238 w2 [rV a0, iV 5, iV a1, iV a2, iV a3, iV x3]) (fun x5 w4 =>
  some (.inr (some (iV x5), w4))) else none) else none) else none := by
  rfl
set_option maxRecDepth 100000 in
theorem eX12_type_0 (C : sC) (w : sW) (a0 a1 a2 : Int) : sg C mX12_type 2000 0 [some (rV a0), some (iV a1), some (iV a2)] [] w =
  if kd w a0 = 10 then
  wl (sv w a0 0 0) (fun w1 =>
  bI (C 155 w1 [iV a2, iV 0, iV 7]) (fun x3 w2 =>
  if kd w2 a0 = 10 then
  bI (C 238 w2 [rV a0, iV 6, iV 0, iV a1, iV a2, iV x3]) (fun x5 w4 =>
  some (.inr (some (iV x5), w4))) else none)) else none := by
  rfl
set_option maxRecDepth 100000 in
theorem eX12_erase_0 (C : sC) (w : sW) (a0 a1 a2 : Int) : sg C mX12_erase 2000 0 [some (rV a0), some (iV a1), some (iV a2)] [] w =
  if kd w a0 = 10 then
  wl (sv w a0 0 0) (fun w1 =>
  bI (C 155 w1 [iV a2, iV 1, iV 200]) (fun x3 w2 =>
  if kd w2 a0 = 10 then
  bI (C 238 w2 [rV a0, iV 7, iV 0, iV a1, iV a2, iV x3]) (fun x5 w4 =>
  some (.inr (some (iV x5), w4))) else none)) else none := by
  rfl
set_option maxRecDepth 100000 in
theorem eX12_undo_0 (C : sC) (w : sW) (a0 : Int) : sg C mX12_undo 2000 0 [some (rV a0)] [] w =
  if kd w a0 = 10 then
  wl (sv w a0 0 0) (fun w1 =>
  if kd w1 a0 = 10 then
  if (gv w1 a0 24) = 0 then
   (some (.inr (some (iV (-1)), w1)))
  else
  if kd w1 a0 = 10 then
  if kd w1 a0 = 10 then
  wl (sv w1 a0 24 (w32 ((gv w1 a0 24) - 1))) (fun w2 =>
  if kd w2 a0 = 10 then
  if kd w2 a0 = 10 then
  if kd w2 a0 = 10 then
  bN (C 231 w2 [rV a0, rV (gv w2 a0 17), iV (w32 (3213 * (gv w2 a0 24)))]) (fun w3 =>
  if kd w3 a0 = 10 then
  some (.inr (some (iV (gv w3 a0 24)), w3)) else none) else none else none else none) else none else none else none) else none := by
  rfl
set_option maxRecDepth 100000 in
theorem eX12_draw_0 (C : sC) (w : sW) (a0 a1 : Int) : sg C mX12_draw 2000 0 [some (rV a0), some (iV a1)] [] w =
  if kd w a0 = 10 then
  if kd w a0 = 10 then
  wl (sv w a0 29 (w32 ((w32 ((gv w a0 29) * 1103515245)) + 12345))) (fun w1 =>
  if kd w1 a0 = 10 then
  if a1 = 0 then none else
  some (.inr (some (iV (Int.tmod (f_iushr (gv w1 a0 29) 8) a1)), w1)) else none) else none else none := by
  rfl
set_option maxRecDepth 100000 in
theorem eX12_doIf_0 (C : sC) (w : sW) (a0 a1 a2 a3 a4 : Int) : sg C mX12_doIf 2000 0 [some (rV a0), some (iV a1), some (iV a2), some (iV a3), some (iV a4)] [] w =
  if kd w a0 = 10 then
  bI (C 235 w [rV a0, iV a1, iV a2, iV a3, iV a4]) (fun x2 w1 =>
  if x2 = 0 then
   (if kd w1 a0 = 10 then
   bN (C 236 w1 [rV a0, iV a1, iV a2, iV a3, iV a4]) (fun w3 =>
   some (.inr (some (iV 1), w3))) else none)
  else
  some (.inr (some (iV 0), w1))) else none := by
  rfl
set_option maxRecDepth 100000 in
theorem eX12_drawsDeed_0 (C : sC) (w : sW) (a0 : Int) : sg C mX12_drawsDeed 2000 0 [some (rV a0), none, none, none, none] [] w =
  if kd w a0 = 10 then
  bI (C 250 w [rV a0, iV 8]) (fun x2 w1 =>
  if kd w1 a0 = 10 then
  if kd w1 (gv w1 a0 14) = 20 ∧ 0 ≤ (0 : Int) ∧ (0 : Int) < ln w1 (gv w1 a0 14) then
  if kd w1 a0 = 10 then
  bI (C 250 w1 [rV a0, iV (gv w1 (gv w1 a0 14) 0)]) (fun x4 w3 =>
  if kd w3 a0 = 10 then
  bI (C 180 w3 [rV a0, iV x4]) (fun x6 w5 =>
  if kd w5 a0 = 10 then
  bI (C 250 w5 [rV a0, iV (w32 (x6 + 1))]) (fun x8 w7 =>
  if x2 < 3 then
   (if kd w7 a0 = 10 then
   bI (C 250 w7 [rV a0, iV 2]) (fun x10 w9 =>
   if kd w9 a0 = 10 then
   bI (C 251 w9 [rV a0, iV 0, iV x4, iV x8, iV x10]) (fun x12 w11 =>
   if x12 = 0 ∨ x12 = 1 then some (.inr (some (iV x12), w11)) else none) else none) else none)
  else
  if x2 = 3 then
   (if kd w7 a0 = 10 then
   bI (C 250 w7 [rV a0, iV 8]) (fun x14 w13 =>
   if kd w13 a0 = 10 then
   bI (C 251 w13 [rV a0, iV 2, iV x4, iV x8, iV (w32 (x14 + 1))]) (fun x16 w15 =>
   if x16 = 0 ∨ x16 = 1 then some (.inr (some (iV x16), w15)) else none) else none) else none)
  else
  if x2 < 6 then
   (if kd w7 a0 = 10 then
   bI (C 250 w7 [rV a0, iV 40]) (fun x18 w17 =>
   if kd w17 a0 = 10 then
   bI (C 251 w17 [rV a0, iV 3, iV x4, iV x8, iV (w32 (x18 + 1))]) (fun x20 w19 =>
   if x20 = 0 ∨ x20 = 1 then some (.inr (some (iV x20), w19)) else none) else none) else none)
  else
  if kd w7 a0 = 10 then
  if kd w7 (gv w7 a0 14) = 20 ∧ 0 ≤ (0 : Int) ∧ (0 : Int) < ln w7 (gv w7 a0 14) then
  if kd w7 a0 = 10 then
  bI (C 250 w7 [rV a0, iV (gv w7 (gv w7 a0 14) 0)]) (fun x22 w21 =>
  if x22 = x4 then
   (some (.inr (some (iV 0), w21)))
  else
  if x2 = 6 then
   (if kd w21 a0 = 10 then
   bI (C 251 w21 [rV a0, iV 4, iV x4, iV x8, iV x22]) (fun x24 w23 =>
   if x24 = 0 then
    (some (.inr (some (iV 0), w23)))
   else
   some (.inr (some (iV 1), w23))) else none)
  else
  if kd w21 a0 = 10 then
  bI (C 251 w21 [rV a0, iV 5, iV x4, iV x8, iV x22]) (fun x26 w25 =>
  if x26 = 0 then
   (some (.inr (some (iV 0), w25)))
  else
  some (.inr (some (iV 1), w25))) else none) else none else none else none) else none) else none) else none else none else none) else none := by
  rfl
set_option maxRecDepth 100000 in
theorem eX12_drawn_0 (C : sC) (w : sW) (a0 a1 a2 : Int) : sg C mX12_drawn 2000 0 [some (rV a0), some (iV a1), some (iV a2), none, none] [] w =
  if kd w a0 = 10 then
  wl (sv w a0 0 0) (fun w1 =>
  bI (C 155 w1 [iV a1, iV 1, iV 60]) (fun x3 w2 =>
  if x3 = 0 then
   (some (.inr (some (iV (-1)), w2)))
  else
  if kd w2 a0 = 10 then
  if kd w2 (gv w2 a0 14) = 20 ∧ 0 ≤ (0 : Int) ∧ (0 : Int) < ln w2 (gv w2 a0 14) then
  if (gv w2 (gv w2 a0 14) 0) = 0 then
   (some (.inr (some (iV 0), w2)))
  else
  if kd w2 a0 = 10 then
  if kd w2 a0 = 10 then
  bN (C 230 w2 [rV a0, rV (gv w2 a0 19), iV 0]) (fun w4 =>
  if kd w4 a0 = 10 then
  wl (sv w4 a0 29 a2) (fun w5 =>
  some (.inl (47, [some (rV a0), some (iV a1), none, some (iV 0), some (iV 0)], [], w5))) else none) else none else none else none else none)) else none := by
  rfl
set_option maxRecDepth 100000 in
theorem eX12_drawn_47 (C : sC) (w : sW) (a0 a1 a3 a4 : Int) : sg C mX12_drawn 2000 47 [some (rV a0), some (iV a1), none, some (iV a3), some (iV a4)] [] w =
  if a4 < a1 then
   (if kd w a0 = 10 then
   bI (C 252 w [rV a0]) (fun x2 w1 =>
   if x2 = 0 then
    (some (.inl (47, [some (rV a0), some (iV a1), none, some (iV a3), some (iV (w32 (a4 + 1)))], [], w1)))
   else
   some (.inl (47, [some (rV a0), some (iV a1), none, some (iV (w32 (a3 + 1))), some (iV (w32 (a4 + 1)))], [], w1))) else none)
  else
  if 0 < a3 then
   (if kd w a0 = 10 then
   bN (C 261 w [rV a0, iV 1]) (fun w3 =>
   some (.inr (some (iV a3), w3))) else none)
  else
  if kd w a0 = 10 then
  bN (C 261 w [rV a0, iV 0]) (fun w4 =>
  some (.inr (some (iV a3), w4))) else none := by
  rfl
set_option maxRecDepth 100000 in
theorem eX12_keep_0 (C : sC) (w : sW) (a0 a1 a2 : Int) : sg C mX12_keep 2000 0 [some (rV a0), some (iV a1), some (iV a2)] [] w =
  if a2 = 0 then
   (if a2 = 0 ∨ a2 = 1 then some (.inr (some (iV a2), w)) else none)
  else
  if kd w a0 = 10 then
  if kd w a0 = 10 then
  if (kd w (gv w a0 30) = 20 ∧ 32 ≤ (gv w a0 30)) ∧ 0 ≤ a1 ∧ a1 < ln w (gv w a0 30) then
  wl (sv w (gv w a0 30) a1 (gv w a0 13)) (fun w1 =>
  if a2 = 0 ∨ a2 = 1 then some (.inr (some (iV a2), w1)) else none) else none else none else none := by
  rfl
set_option maxRecDepth 100000 in
theorem eX12_readRowName_0 (C : sC) (w : sW) (a0 : Int) : sg C mX12_readRowName 2000 0 [some (rV a0)] [] w =
  if kd w a0 = 10 then
  bI (C 164 w [rV a0]) (fun x2 w1 =>
  if x2 = 0 then
   (if kd w1 a0 = 10 then
   bI (C 165 w1 [rV a0, iV 1]) (fun x4 w3 =>
   if x4 = 0 ∨ x4 = 1 then some (.inr (some (iV x4), w3)) else none) else none)
  else
  if kd w1 a0 = 10 then
  if kd w1 a0 = 10 then
  if kd w1 (gv w1 a0 14) = 20 ∧ 0 ≤ (0 : Int) ∧ (0 : Int) < ln w1 (gv w1 a0 14) then
  if kd w1 a0 = 10 then
  bI (C 171 w1 [rV (gv w1 a0 20), iV (gv w1 (gv w1 a0 14) 0), lV (gv w1 a0 12)]) (fun x6 w5 =>
  if kd w5 a0 = 10 then
  wl (sv w5 a0 13 x6) (fun w7 =>
  if kd w7 a0 = 10 then
  if (gv w7 a0 13) = (-1) then
   (if kd w7 a0 = 10 then
   bI (C 165 w7 [rV a0, iV 3]) (fun x9 w8 =>
   if x9 = 0 ∨ x9 = 1 then some (.inr (some (iV x9), w8)) else none) else none)
  else
  if kd w7 a0 = 10 then
  bN (C 159 w7 [rV a0]) (fun w10 =>
  some (.inr (some (iV 1), w10))) else none else none) else none) else none else none else none else none) else none := by
  rfl
set_option maxRecDepth 100000 in
theorem eX12_readOther_0 (C : sC) (w : sW) (a0 a1 : Int) : sg C mX12_readOther 2000 0 [some (rV a0), some (iV a1)] [] w =
  if kd w a0 = 10 then
  bI (C 164 w [rV a0]) (fun x2 w1 =>
  if x2 = 0 then
   (if kd w1 a0 = 10 then
   bI (C 165 w1 [rV a0, iV 1]) (fun x4 w3 =>
   if x4 = 0 ∨ x4 = 1 then some (.inr (some (iV x4), w3)) else none) else none)
  else
  if kd w1 a0 = 10 then
  if kd w1 a0 = 10 then
  if kd w1 a0 = 10 then
  if kd w1 (gv w1 a0 14) = 20 ∧ 0 ≤ (0 : Int) ∧ (0 : Int) < ln w1 (gv w1 a0 14) then
  if kd w1 a0 = 10 then
  bI (C 171 w1 [rV (gv w1 a0 20), iV (gv w1 (gv w1 a0 14) 0), lV (gv w1 a0 12)]) (fun x6 w5 =>
  if (kd w5 (gv w1 a0 30) = 20 ∧ 32 ≤ (gv w1 a0 30)) ∧ 0 ≤ (w32 (a1 + 3)) ∧ (w32 (a1 + 3)) < ln w5 (gv w1 a0 30) then
  wl (sv w5 (gv w1 a0 30) (w32 (a1 + 3)) x6) (fun w7 =>
  if kd w7 a0 = 10 then
  if kd w7 (gv w7 a0 30) = 20 ∧ 0 ≤ (w32 (a1 + 3)) ∧ (w32 (a1 + 3)) < ln w7 (gv w7 a0 30) then
  if (gv w7 (gv w7 a0 30) (w32 (a1 + 3))) = (-1) then
   (if kd w7 a0 = 10 then
   bI (C 165 w7 [rV a0, iV 3]) (fun x9 w8 =>
   if x9 = 0 ∨ x9 = 1 then some (.inr (some (iV x9), w8)) else none) else none)
  else
  if kd w7 a0 = 10 then
  if kd w7 (gv w7 a0 30) = 20 ∧ 0 ≤ (w32 (a1 + 3)) ∧ (w32 (a1 + 3)) < ln w7 (gv w7 a0 30) then
  if kd w7 a0 = 10 then
  if kd w7 (gv w7 a0 30) = 20 ∧ 0 ≤ (w32 (a1 + 1)) ∧ (w32 (a1 + 1)) < ln w7 (gv w7 a0 30) then
  if (gv w7 (gv w7 a0 30) (w32 (a1 + 3))) = (gv w7 (gv w7 a0 30) (w32 (a1 + 1))) then
   (if kd w7 a0 = 10 then
   bI (C 165 w7 [rV a0, iV 3]) (fun x11 w10 =>
   if x11 = 0 ∨ x11 = 1 then some (.inr (some (iV x11), w10)) else none) else none)
  else
  if kd w7 a0 = 10 then
  bN (C 159 w7 [rV a0]) (fun w12 =>
  some (.inr (some (iV 1), w12))) else none else none else none else none else none else none else none) else none) else none else none else none else none else none) else none := by
  rfl
set_option maxRecDepth 100000 in
theorem eX12_readBookLine_0 (C : sC) (w : sW) (a0 : Int) : sg C mX12_readBookLine 2000 0 [some (rV a0), none, none, none] [] w =
  some (.inl (4, [some (rV a0), some (iV (-1)), some (iV 0), none], [], w)) := by
  rfl
set_option maxRecDepth 100000 in
theorem eX12_readBookLine_4 (C : sC) (w : sW) (a0 a1 a2 : Int) : sg C mX12_readBookLine 2000 4 [some (rV a0), some (iV a1), some (iV a2), none] [] w =
  if 7 < a2 then
   (if a1 = (-1) then
    (if kd w a0 = 10 then
    bI (C 165 w [rV a0, iV 1]) (fun x2 w1 =>
    if x2 = 0 ∨ x2 = 1 then some (.inr (some (iV x2), w1)) else none) else none)
   else
   if kd w a0 = 10 then
   if (gv w a0 32) = 40 then
    (if kd w a0 = 10 then
    bI (C 165 w [rV a0, iV 4]) (fun x4 w3 =>
    if x4 = 0 ∨ x4 = 1 then some (.inr (some (iV x4), w3)) else none) else none)
   else
   if kd w a0 = 10 then
   if kd w a0 = 10 then
   if (kd w (gv w a0 30) = 20 ∧ 32 ≤ (gv w a0 30)) ∧ 0 ≤ (w32 (4 * (gv w a0 32))) ∧ (w32 (4 * (gv w a0 32))) < ln w (gv w a0 30) then
   wl (sv w (gv w a0 30) (w32 (4 * (gv w a0 32))) a1) (fun w5 =>
   if kd w5 a0 = 10 then
   if (kd w5 (gv w5 a0 30) = 20 ∧ 32 ≤ (gv w5 a0 30)) ∧ 0 ≤ (w32 ((w32 (4 * (gv w a0 32))) + 1)) ∧ (w32 ((w32 (4 * (gv w a0 32))) + 1)) < ln w5 (gv w5 a0 30) then
   wl (sv w5 (gv w5 a0 30) (w32 ((w32 (4 * (gv w a0 32))) + 1)) 0) (fun w6 =>
   if kd w6 a0 = 10 then
   if (kd w6 (gv w6 a0 30) = 20 ∧ 32 ≤ (gv w6 a0 30)) ∧ 0 ≤ (w32 ((w32 (4 * (gv w a0 32))) + 2)) ∧ (w32 ((w32 (4 * (gv w a0 32))) + 2)) < ln w6 (gv w6 a0 30) then
   wl (sv w6 (gv w6 a0 30) (w32 ((w32 (4 * (gv w a0 32))) + 2)) 0) (fun w7 =>
   if kd w7 a0 = 10 then
   bN (C 159 w7 [rV a0]) (fun w8 =>
   if a1 < 6 then
    (if kd w8 a0 = 10 then
    bI (C 255 w8 [rV a0]) (fun x10 w9 =>
    if kd w9 a0 = 10 then
    bI (C 254 w9 [rV a0, iV (w32 ((w32 (4 * (gv w a0 32))) + 1)), iV x10]) (fun x12 w11 =>
    if x12 = 0 then
     (some (.inr (some (iV 0), w11)))
    else
    if a1 = 4 then
     (some (.inl (137, [some (rV a0), some (iV a1), some (iV (w32 (4 * (gv w a0 32)))), none], [], w11)))
    else
    if kd w11 a0 = 10 then
    bI (C 166 w11 [rV a0, iV 0, iV 999]) (fun x14 w13 =>
    if kd w13 a0 = 10 then
    bI (C 254 w13 [rV a0, iV (w32 ((w32 (4 * (gv w a0 32))) + 2)), iV x14]) (fun x16 w15 =>
    if x16 = 0 then
     (some (.inr (some (iV 0), w15)))
    else
    some (.inl (137, [some (rV a0), some (iV a1), some (iV (w32 (4 * (gv w a0 32)))), none], [], w15))) else none) else none) else none) else none)
   else
   if a1 = 4 then
    (some (.inl (137, [some (rV a0), some (iV a1), some (iV (w32 (4 * (gv w a0 32)))), none], [], w8)))
   else
   if kd w8 a0 = 10 then
   bI (C 166 w8 [rV a0, iV 0, iV 999]) (fun x18 w17 =>
   if kd w17 a0 = 10 then
   bI (C 254 w17 [rV a0, iV (w32 ((w32 (4 * (gv w a0 32))) + 2)), iV x18]) (fun x20 w19 =>
   if x20 = 0 then
    (some (.inr (some (iV 0), w19)))
   else
   some (.inl (137, [some (rV a0), some (iV a1), some (iV (w32 (4 * (gv w a0 32)))), none], [], w19))) else none) else none) else none) else none else none) else none else none) else none else none else none else none)
  else
  if kd w a0 = 10 then
  bI (C 162 w [rV a0, iV (w32 (3 + a2))]) (fun x22 w21 =>
  if x22 = 0 then
   (some (.inl (4, [some (rV a0), some (iV a1), some (iV (w32 (a2 + 1))), none], [], w21)))
  else
  some (.inl (4, [some (rV a0), some (iV a2), some (iV (w32 (a2 + 1))), none], [], w21))) else none := by
  rfl
set_option maxRecDepth 100000 in
theorem eX12_readBookLine_137 (C : sC) (w : sW) (a0 a1 a2 : Int) : sg C mX12_readBookLine 2000 137 [some (rV a0), some (iV a1), some (iV a2), none] [] w =
  if a1 = 4 then
   (if kd w a0 = 10 then
   bI (C 256 w [rV a0, iV a2]) (fun x2 w1 =>
   if x2 = 0 then
    (some (.inr (some (iV 0), w1)))
   else
   if kd w1 a0 = 10 then
   bI (C 167 w1 [rV a0]) (fun x4 w3 =>
   if x4 = 0 then
    (some (.inr (some (iV 0), w3)))
   else
   some (.inr (some (iV 1), w3))) else none) else none)
  else
  if a1 = 5 then
   (if kd w a0 = 10 then
   bI (C 256 w [rV a0, iV a2]) (fun x6 w5 =>
   if x6 = 0 then
    (some (.inr (some (iV 0), w5)))
   else
   if kd w5 a0 = 10 then
   bI (C 167 w5 [rV a0]) (fun x8 w7 =>
   if x8 = 0 then
    (some (.inr (some (iV 0), w7)))
   else
   some (.inr (some (iV 1), w7))) else none) else none)
  else
  if a1 = 2 then
   (some (.inl (189, [some (rV a0), some (iV a1), some (iV a2), none], [iV 1], w)))
  else
  if a1 = 3 then
   (some (.inl (189, [some (rV a0), some (iV a1), some (iV a2), none], [iV 1], w)))
  else
  if a1 = 7 then
   (some (.inl (189, [some (rV a0), some (iV a1), some (iV a2), none], [iV 1], w)))
  else
  some (.inl (189, [some (rV a0), some (iV a1), some (iV a2), none], [iV 0], w)) := by
  rfl
set_option maxRecDepth 100000 in
theorem eX12_readBookLine_189 (C : sC) (w : sW) (a0 a1 a2 b0 : Int) : sg C mX12_readBookLine 2000 189 [some (rV a0), some (iV a1), some (iV a2), none] [iV b0] w =
  if b0 = 0 then
   (if a1 = 6 then
    (if kd w a0 = 10 then
    bI (C 166 w [rV a0, iV 0, iV 7]) (fun x2 w1 =>
    if kd w1 a0 = 10 then
    bI (C 254 w1 [rV a0, iV (w32 (a2 + 3)), iV x2]) (fun x4 w3 =>
    if x4 = 0 then
     (some (.inr (some (iV 0), w3)))
    else
    if kd w3 a0 = 10 then
    bI (C 167 w3 [rV a0]) (fun x6 w5 =>
    if x6 = 0 then
     (some (.inr (some (iV 0), w5)))
    else
    some (.inr (some (iV 1), w5))) else none) else none) else none)
   else
   if kd w a0 = 10 then
   bI (C 166 w [rV a0, iV 0, iV 1]) (fun x8 w7 =>
   if kd w7 a0 = 10 then
   bI (C 254 w7 [rV a0, iV (w32 (a2 + 3)), iV x8]) (fun x10 w9 =>
   if x10 = 0 then
    (some (.inr (some (iV 0), w9)))
   else
   if kd w9 a0 = 10 then
   bI (C 167 w9 [rV a0]) (fun x12 w11 =>
   if x12 = 0 then
    (some (.inr (some (iV 0), w11)))
   else
   some (.inr (some (iV 1), w11))) else none) else none) else none)
  else
  if kd w a0 = 10 then
  bI (C 166 w [rV a0, iV 1, iV 600]) (fun x14 w13 =>
  if kd w13 a0 = 10 then
  bI (C 254 w13 [rV a0, iV (w32 (a2 + 3)), iV x14]) (fun x16 w15 =>
  if x16 = 0 then
   (some (.inr (some (iV 0), w15)))
  else
  if kd w15 a0 = 10 then
  bI (C 167 w15 [rV a0]) (fun x18 w17 =>
  if x18 = 0 then
   (some (.inr (some (iV 0), w17)))
  else
  some (.inr (some (iV 1), w17))) else none) else none) else none := by
  rfl
set_option maxRecDepth 100000 in
theorem eX12_goBy_0 (C : sC) (w : sW) (a0 a1 : Int) : sg C mX12_goBy 2000 0 [some (rV a0), some (iV a1), none, none] [] w =
  if kd w a0 = 10 then
  if kd w (gv w a0 30) = 20 ∧ 0 ≤ a1 ∧ a1 < ln w (gv w a0 30) then
  if kd w a0 = 10 then
  if kd w (gv w a0 30) = 20 ∧ 0 ≤ (w32 (a1 + 1)) ∧ (w32 (a1 + 1)) < ln w (gv w a0 30) then
  if kd w a0 = 10 then
  if kd w (gv w a0 30) = 20 ∧ 0 ≤ (w32 (a1 + 2)) ∧ (w32 (a1 + 2)) < ln w (gv w a0 30) then
  if kd w a0 = 10 then
  if kd w (gv w a0 30) = 20 ∧ 0 ≤ (w32 (a1 + 3)) ∧ (w32 (a1 + 3)) < ln w (gv w a0 30) then
  if kd w a0 = 10 then
  bI (C 235 w [rV a0, iV (gv w (gv w a0 30) a1), iV (gv w (gv w a0 30) (w32 (a1 + 1))), iV (gv w (gv w a0 30) (w32 (a1 + 2))), iV (gv w (gv w a0 30) (w32 (a1 + 3)))]) (fun x2 w1 =>
  if x2 = 0 then
   (if kd w1 a0 = 10 then
   if kd w1 (gv w1 a0 30) = 20 ∧ 0 ≤ (w32 (a1 + 1)) ∧ (w32 (a1 + 1)) < ln w1 (gv w1 a0 30) then
   if kd w1 a0 = 10 then
   if kd w1 (gv w1 a0 30) = 20 ∧ 0 ≤ (w32 (a1 + 2)) ∧ (w32 (a1 + 2)) < ln w1 (gv w1 a0 30) then
   if kd w1 a0 = 10 then
   if kd w1 (gv w1 a0 30) = 20 ∧ 0 ≤ (w32 (a1 + 3)) ∧ (w32 (a1 + 3)) < ln w1 (gv w1 a0 30) then
   if kd w1 a0 = 10 then
   bN (C 236 w1 [rV a0, iV (gv w (gv w a0 30) a1), iV (gv w1 (gv w1 a0 30) (w32 (a1 + 1))), iV (gv w1 (gv w1 a0 30) (w32 (a1 + 2))), iV (gv w1 (gv w1 a0 30) (w32 (a1 + 3)))]) (fun w3 =>
   some (.inr (some (iV 0), w3))) else none else none else none else none else none else none else none)
  else
  some (.inr (some (iV (w32 ((w32 (10 * (gv w (gv w a0 30) a1))) + x2))), w1))) else none else none else none else none else none else none else none else none else none := by
  rfl
set_option maxRecDepth 100000 in
theorem eX12_allBits_0 (C : sC) (w : sW) (a0 : Int) : sg C mX12_allBits 2000 0 [some (rV a0), none, none] [] w =
  some (.inl (4, [some (rV a0), some (iV 0), some (iV 0)], [], w)) := by
  rfl
set_option maxRecDepth 100000 in
theorem eX12_allBits_4 (C : sC) (w : sW) (a0 a1 a2 : Int) : sg C mX12_allBits 2000 4 [some (rV a0), some (iV a1), some (iV a2)] [] w =
  if kd w a0 = 10 then
  if kd w (gv w a0 14) = 20 ∧ 0 ≤ (0 : Int) ∧ (0 : Int) < ln w (gv w a0 14) then
  if a2 < (gv w (gv w a0 14) 0) then
   (if kd w a0 = 10 then
   bI (C 180 w [rV a0, iV a2]) (fun x2 w1 =>
   some (.inl (4, [some (rV a0), some (iV (w32 (a1 + x2))), some (iV (w32 (a2 + 1)))], [], w1))) else none)
  else
  some (.inr (some (iV a1), w)) else none else none := by
  rfl
set_option maxRecDepth 100000 in
theorem eX12_book_0 (C : sC) (w : sW) (a0 a1 : Int) : sg C mX12_book 2000 0 [some (rV a0), some (iV a1), none, none] [] w =
  if kd w a0 = 10 then
  wl (sv w a0 0 0) (fun w1 =>
  bI (C 155 w1 [iV a1, iV 0, iV 1]) (fun x3 w2 =>
  if x3 = 0 then
   (some (.inr (some (iV (-1000)), w2)))
  else
  if kd w2 a0 = 10 then
  bN (C 168 w2 [rV a0, iV 400]) (fun w4 =>
  if kd w4 a0 = 10 then
  wl (sv w4 a0 32 0) (fun w5 =>
  some (.inl (30, [some (rV a0), some (iV a1), none, none], [], w5))) else none) else none)) else none := by
  rfl
set_option maxRecDepth 100000 in
theorem eX12_book_30 (C : sC) (w : sW) (a0 a1 : Int) : sg C mX12_book 2000 30 [some (rV a0), some (iV a1), none, none] [] w =
  if kd w a0 = 10 then
  if (gv w a0 7) = 0 then
   (if kd w a0 = 10 then
   if kd w a0 = 10 then
   bN (C 230 w [rV a0, rV (gv w a0 19), iV 0]) (fun w1 =>
   some (.inl (78, [some (rV a0), some (iV a1), some (iV 0), some (iV 0)], [], w1))) else none else none)
  else
  if kd w a0 = 10 then
  bI (C 257 w [rV a0]) (fun x3 w2 =>
  if x3 = 0 then
   (if kd w2 a0 = 10 then
   some (.inr (some (iV (w32 ((-2) - (gv w2 a0 11)))), w2)) else none)
  else
  if kd w2 a0 = 10 then
  if kd w2 a0 = 10 then
  wl (sv w2 a0 32 (w32 ((gv w2 a0 32) + 1))) (fun w4 =>
  some (.inl (30, [some (rV a0), some (iV a1), none, none], [], w4))) else none else none) else none else none := by
  rfl
set_option maxRecDepth 100000 in
theorem eX12_book_78 (C : sC) (w : sW) (a0 a1 a2 a3 : Int) : sg C mX12_book 2000 78 [some (rV a0), some (iV a1), some (iV a2), some (iV a3)] [] w =
  if kd w a0 = 10 then
  if a2 < (gv w a0 32) then
   (if a3 = 0 then
    (if kd w a0 = 10 then
    bI (C 258 w [rV a0, iV (w32 (4 * a2))]) (fun x2 w1 =>
    if x2 = 0 then
     (some (.inl (78, [some (rV a0), some (iV a1), some (iV (w32 (a2 + 1))), some (iV x2)], [], w1)))
    else
    some (.inl (78, [some (rV a0), some (iV a1), some (iV a2), some (iV x2)], [], w1))) else none)
   else
   if kd w a0 = 10 then
   if (kd w (gv w a0 31) = 20 ∧ 32 ≤ (gv w a0 31)) ∧ 0 ≤ (0 : Int) ∧ (0 : Int) < ln w (gv w a0 31) then
   wl (sv w (gv w a0 31) 0 a3) (fun w3 =>
   if kd w3 a0 = 10 then
   if (kd w3 (gv w3 a0 31) = 20 ∧ 32 ≤ (gv w3 a0 31)) ∧ 0 ≤ (1 : Int) ∧ (1 : Int) < ln w3 (gv w3 a0 31) then
   wl (sv w3 (gv w3 a0 31) 1 a2) (fun w4 =>
   if kd w4 a0 = 10 then
   if kd w4 a0 = 10 then
   bI (C 259 w4 [rV a0]) (fun x6 w5 =>
   if (kd w5 (gv w4 a0 31) = 20 ∧ 32 ≤ (gv w4 a0 31)) ∧ 0 ≤ (2 : Int) ∧ (2 : Int) < ln w5 (gv w4 a0 31) then
   wl (sv w5 (gv w4 a0 31) 2 x6) (fun w7 =>
   if kd w7 a0 = 10 then
   if kd w7 a0 = 10 then
   if kd w7 (gv w7 a0 14) = 20 ∧ 0 ≤ (2615 : Int) ∧ (2615 : Int) < ln w7 (gv w7 a0 14) then
   if (kd w7 (gv w7 a0 31) = 20 ∧ 32 ≤ (gv w7 a0 31)) ∧ 0 ≤ (3 : Int) ∧ (3 : Int) < ln w7 (gv w7 a0 31) then
   wl (sv w7 (gv w7 a0 31) 3 (gv w7 (gv w7 a0 14) 2615)) (fun w8 =>
   if kd w8 a0 = 10 ∧ ((1 : Int) = 0 ∨ (1 : Int) = 1) then
   wl (sv w8 a0 33 1) (fun w9 =>
   if a1 = 1 then
    (if 0 < a2 then
     (if kd w9 a0 = 10 then
     bN (C 261 w9 [rV a0, iV 1]) (fun w10 =>
     if a3 = 0 then
      (some (.inr (some (iV (-1)), w10)))
     else
     some (.inr (some (iV a2), w10))) else none)
    else
    if kd w9 a0 = 10 then
    bN (C 261 w9 [rV a0, iV 0]) (fun w11 =>
    if a3 = 0 then
     (some (.inr (some (iV (-1)), w11)))
    else
    some (.inr (some (iV a2), w11))) else none)
   else
   if kd w9 a0 = 10 then
   bN (C 261 w9 [rV a0, iV 0]) (fun w12 =>
   if a3 = 0 then
    (some (.inr (some (iV (-1)), w12)))
   else
   some (.inr (some (iV a2), w12))) else none) else none) else none else none else none else none) else none) else none else none) else none else none) else none else none)
  else
  if kd w a0 = 10 then
  if (kd w (gv w a0 31) = 20 ∧ 32 ≤ (gv w a0 31)) ∧ 0 ≤ (0 : Int) ∧ (0 : Int) < ln w (gv w a0 31) then
  wl (sv w (gv w a0 31) 0 a3) (fun w13 =>
  if kd w13 a0 = 10 then
  if (kd w13 (gv w13 a0 31) = 20 ∧ 32 ≤ (gv w13 a0 31)) ∧ 0 ≤ (1 : Int) ∧ (1 : Int) < ln w13 (gv w13 a0 31) then
  wl (sv w13 (gv w13 a0 31) 1 a2) (fun w14 =>
  if kd w14 a0 = 10 then
  if kd w14 a0 = 10 then
  bI (C 259 w14 [rV a0]) (fun x16 w15 =>
  if (kd w15 (gv w14 a0 31) = 20 ∧ 32 ≤ (gv w14 a0 31)) ∧ 0 ≤ (2 : Int) ∧ (2 : Int) < ln w15 (gv w14 a0 31) then
  wl (sv w15 (gv w14 a0 31) 2 x16) (fun w17 =>
  if kd w17 a0 = 10 then
  if kd w17 a0 = 10 then
  if kd w17 (gv w17 a0 14) = 20 ∧ 0 ≤ (2615 : Int) ∧ (2615 : Int) < ln w17 (gv w17 a0 14) then
  if (kd w17 (gv w17 a0 31) = 20 ∧ 32 ≤ (gv w17 a0 31)) ∧ 0 ≤ (3 : Int) ∧ (3 : Int) < ln w17 (gv w17 a0 31) then
  wl (sv w17 (gv w17 a0 31) 3 (gv w17 (gv w17 a0 14) 2615)) (fun w18 =>
  if kd w18 a0 = 10 ∧ ((1 : Int) = 0 ∨ (1 : Int) = 1) then
  wl (sv w18 a0 33 1) (fun w19 =>
  if a1 = 1 then
   (if 0 < a2 then
    (if kd w19 a0 = 10 then
    bN (C 261 w19 [rV a0, iV 1]) (fun w20 =>
    if a3 = 0 then
     (some (.inr (some (iV (-1)), w20)))
    else
    some (.inr (some (iV a2), w20))) else none)
   else
   if kd w19 a0 = 10 then
   bN (C 261 w19 [rV a0, iV 0]) (fun w21 =>
   if a3 = 0 then
    (some (.inr (some (iV (-1)), w21)))
   else
   some (.inr (some (iV a2), w21))) else none)
  else
  if kd w19 a0 = 10 then
  bN (C 261 w19 [rV a0, iV 0]) (fun w22 =>
  if a3 = 0 then
   (some (.inr (some (iV (-1)), w22)))
  else
  some (.inr (some (iV a2), w22))) else none) else none) else none else none else none else none) else none) else none else none) else none else none) else none else none else none := by
  rfl
set_option maxRecDepth 100000 in
theorem eX12_stay_0 (C : sC) (w : sW) (a0 a1 : Int) : sg C mX12_stay 2000 0 [some (rV a0), some (iV a1)] [] w =
  if kd w a0 = 10 then
  if kd w a0 = 10 then
  bN (C 230 w [rV a0, rV (gv w a0 18), iV 0]) (fun w1 =>
  if kd w1 a0 = 10 then
  if kd w1 a0 = 10 then
  bN (C 231 w1 [rV a0, rV (gv w1 a0 19), iV 0]) (fun w2 =>
  if a1 = 0 then
   (some (.inr (none, w2)))
  else
  if kd w2 a0 = 10 then
  bN (C 232 w2 [rV a0]) (fun w3 =>
  if kd w3 a0 = 10 then
  if kd w3 a0 = 10 then
  bN (C 231 w3 [rV a0, rV (gv w3 a0 18), iV 0]) (fun w4 =>
  some (.inr (none, w4))) else none else none) else none) else none else none) else none else none := by
  rfl
set_option maxRecDepth 100000 in
theorem eX12_told_0 (C : sC) (w : sW) (a0 a1 : Int) : sg C mX12_told 2000 0 [some (rV a0), some (iV a1)] [] w =
  if kd w a0 = 10 then
  wl (sv w a0 0 0) (fun w1 =>
  if kd w1 a0 = 10 then
  if (gv w1 a0 33) = 0 then
   (some (.inr (some (iV (-1)), w1)))
  else
  bI (C 155 w1 [iV a1, iV 0, iV 3]) (fun x3 w2 =>
  if x3 = 0 then
   (some (.inr (some (iV (-1)), w2)))
  else
  if kd w2 a0 = 10 then
  if kd w2 (gv w2 a0 31) = 20 ∧ 0 ≤ a1 ∧ a1 < ln w2 (gv w2 a0 31) then
  some (.inr (some (iV (gv w2 (gv w2 a0 31) a1)), w2)) else none else none) else none) else none := by
  rfl
set_option maxRecDepth 100000 in
theorem eX12_beginsWith_0 (C : sC) (w : sW) (a0 a1 a2 : Int) : sg C mX12_beginsWith 2000 0 [some (rV a0), some (iV a1), some (iV a2)] [] w =
  if kd w a0 = 10 then
  bI (C 180 w [rV a0, iV a2]) (fun x2 w1 =>
  if kd w1 a0 = 10 then
  bI (C 180 w1 [rV a0, iV a1]) (fun x4 w3 =>
  if x4 < x2 then
   (some (.inr (some (iV 0), w3)))
  else
  if kd w3 a0 = 10 then
  bI (C 214 w3 [rV a0, iV a1, iV a2]) (fun x6 w5 =>
  if kd w5 a0 = 10 then
  bI (C 180 w5 [rV a0, iV a2]) (fun x8 w7 =>
  if x6 = x8 then
   (some (.inr (some (iV 1), w7)))
  else
  some (.inr (some (iV 0), w7))) else none) else none) else none) else none := by
  rfl
set_option maxRecDepth 100000 in
theorem eX12_onesOf_0 (C : sC) (w : sW) (a0 a1 : Int) : sg C mX12_onesOf 2000 0 [some (rV a0), some (iV a1)] [] w =
  if kd w a0 = 10 then
  bI (C 180 w [rV a0, iV a1]) (fun x2 w1 =>
  if kd w1 a0 = 10 then
  bI (C 191 w1 [rV a0, iV a1, iV 0, iV x2]) (fun x4 w3 =>
  some (.inr (some (iV x4), w3))) else none) else none := by
  rfl
set_option maxRecDepth 100000 in
theorem eX12_saysOne_0 (C : sC) (w : sW) (a0 a1 a2 a3 a4 : Int) : sg C mX12_saysOne 2000 0 [some (rV a0), some (iV a1), some (iV a2), some (iV a3), some (iV a4), none] [] w =
  if kd w a0 = 10 then
  if kd w a0 = 10 then
  if (kd w (gv w a0 34) = 20 ∧ 32 ≤ (gv w a0 34)) ∧ 0 ≤ (w32 (4 * (gv w a0 35))) ∧ (w32 (4 * (gv w a0 35))) < ln w (gv w a0 34) then
  wl (sv w (gv w a0 34) (w32 (4 * (gv w a0 35))) a1) (fun w1 =>
  if kd w1 a0 = 10 then
  if (kd w1 (gv w1 a0 34) = 20 ∧ 32 ≤ (gv w1 a0 34)) ∧ 0 ≤ (w32 ((w32 (4 * (gv w a0 35))) + 1)) ∧ (w32 ((w32 (4 * (gv w a0 35))) + 1)) < ln w1 (gv w1 a0 34) then
  wl (sv w1 (gv w1 a0 34) (w32 ((w32 (4 * (gv w a0 35))) + 1)) a2) (fun w2 =>
  if kd w2 a0 = 10 then
  if (kd w2 (gv w2 a0 34) = 20 ∧ 32 ≤ (gv w2 a0 34)) ∧ 0 ≤ (w32 ((w32 (4 * (gv w a0 35))) + 2)) ∧ (w32 ((w32 (4 * (gv w a0 35))) + 2)) < ln w2 (gv w2 a0 34) then
  wl (sv w2 (gv w2 a0 34) (w32 ((w32 (4 * (gv w a0 35))) + 2)) a3) (fun w3 =>
  if kd w3 a0 = 10 then
  if (kd w3 (gv w3 a0 34) = 20 ∧ 32 ≤ (gv w3 a0 34)) ∧ 0 ≤ (w32 ((w32 (4 * (gv w a0 35))) + 3)) ∧ (w32 ((w32 (4 * (gv w a0 35))) + 3)) < ln w3 (gv w3 a0 34) then
  wl (sv w3 (gv w3 a0 34) (w32 ((w32 (4 * (gv w a0 35))) + 3)) a4) (fun w4 =>
  if kd w4 a0 = 10 then
  if kd w4 a0 = 10 then
  wl (sv w4 a0 35 (w32 ((gv w4 a0 35) + 1))) (fun w5 =>
  if kd w5 a0 = 10 then
  some (.inr (some (iV (w32 ((gv w5 a0 35) - 1))), w5)) else none) else none else none) else none else none) else none else none) else none else none) else none else none else none := by
  rfl
set_option maxRecDepth 100000 in
theorem eX12_readOr_0 (C : sC) (w : sW) (a0 : Int) : sg C mX12_readOr 2000 0 [some (rV a0), none] [] w =
  if kd w a0 = 10 then
  bI (C 267 w [rV a0]) (fun x2 w1 =>
  if x2 = 0 then
   (some (.inr (some (iV 0), w1)))
  else
  if kd w1 a0 = 10 then
  some (.inl (14, [some (rV a0), some (iV (gv w1 a0 38))], [], w1)) else none) else none := by
  rfl
set_option maxRecDepth 100000 in
theorem eX12_readOr_14 (C : sC) (w : sW) (a0 a1 : Int) : sg C mX12_readOr 2000 14 [some (rV a0), some (iV a1)] [] w =
  if kd w a0 = 10 then
  bI (C 162 w [rV a0, iV 11]) (fun x2 w1 =>
  if x2 = 0 then
   (if kd w1 a0 = 10 then
   wl (sv w1 a0 38 a1) (fun w3 =>
   some (.inr (some (iV 1), w3))) else none)
  else
  if kd w1 a0 = 10 then
  bN (C 159 w1 [rV a0]) (fun w4 =>
  if kd w4 a0 = 10 then
  bI (C 267 w4 [rV a0]) (fun x6 w5 =>
  if x6 = 0 then
   (some (.inr (some (iV 0), w5)))
  else
  if kd w5 a0 = 10 then
  if kd w5 a0 = 10 then
  bI (C 265 w5 [rV a0, iV 3, iV a1, iV (gv w5 a0 38), iV 0]) (fun x8 w7 =>
  some (.inl (14, [some (rV a0), some (iV x8)], [], w7))) else none else none) else none) else none) else none := by
  rfl
set_option maxRecDepth 100000 in
theorem eX12_readAnd_0 (C : sC) (w : sW) (a0 : Int) : sg C mX12_readAnd 2000 0 [some (rV a0), none] [] w =
  if kd w a0 = 10 then
  bI (C 268 w [rV a0]) (fun x2 w1 =>
  if x2 = 0 then
   (some (.inr (some (iV 0), w1)))
  else
  if kd w1 a0 = 10 then
  some (.inl (14, [some (rV a0), some (iV (gv w1 a0 38))], [], w1)) else none) else none := by
  rfl
set_option maxRecDepth 100000 in
theorem eX12_readAnd_14 (C : sC) (w : sW) (a0 a1 : Int) : sg C mX12_readAnd 2000 14 [some (rV a0), some (iV a1)] [] w =
  if kd w a0 = 10 then
  bI (C 162 w [rV a0, iV 12]) (fun x2 w1 =>
  if x2 = 0 then
   (if kd w1 a0 = 10 then
   wl (sv w1 a0 38 a1) (fun w3 =>
   some (.inr (some (iV 1), w3))) else none)
  else
  if kd w1 a0 = 10 then
  bN (C 159 w1 [rV a0]) (fun w4 =>
  if kd w4 a0 = 10 then
  bI (C 268 w4 [rV a0]) (fun x6 w5 =>
  if x6 = 0 then
   (some (.inr (some (iV 0), w5)))
  else
  if kd w5 a0 = 10 then
  if kd w5 a0 = 10 then
  bI (C 265 w5 [rV a0, iV 2, iV a1, iV (gv w5 a0 38), iV 0]) (fun x8 w7 =>
  some (.inl (14, [some (rV a0), some (iV x8)], [], w7))) else none else none) else none) else none) else none := by
  rfl
set_option maxRecDepth 100000 in
theorem eX12_readSaid_0 (C : sC) (w : sW) (a0 : Int) : sg C mX12_readSaid 2000 0 [some (rV a0), none, none, none] [] w =
  if kd w a0 = 10 then
  bI (C 163 w [rV a0, iV 40]) (fun x2 w1 =>
  some (.inl (10, [some (rV a0), some (iV x2), some (iV 13), none], [], w1))) else none := by
  rfl
set_option maxRecDepth 100000 in
theorem eX12_readSaid_10 (C : sC) (w : sW) (a0 a1 a2 : Int) : sg C mX12_readSaid 2000 10 [some (rV a0), some (iV a1), some (iV a2), none] [] w =
  if 22 < a2 then
   (if a1 = 0 then
    (if 22 < a2 then
     (if kd w a0 = 10 then
     bI (C 165 w [rV a0, iV 1]) (fun x2 w1 =>
     if x2 = 0 ∨ x2 = 1 then some (.inr (some (iV x2), w1)) else none) else none)
    else
    some (.inl (46, [some (rV a0), some (iV a1), some (iV a2), none], [], w)))
   else
   some (.inl (46, [some (rV a0), some (iV a1), some (iV a2), none], [], w)))
  else
  if kd w a0 = 10 then
  bI (C 162 w [rV a0, iV a2]) (fun x4 w3 =>
  if x4 = 0 then
   (some (.inl (10, [some (rV a0), some (iV a1), some (iV (w32 (a2 + 1))), none], [], w3)))
  else
  if a1 = 0 then
   (if 22 < a2 then
    (if kd w3 a0 = 10 then
    bI (C 165 w3 [rV a0, iV 1]) (fun x6 w5 =>
    if x6 = 0 ∨ x6 = 1 then some (.inr (some (iV x6), w5)) else none) else none)
   else
   some (.inl (46, [some (rV a0), some (iV a1), some (iV a2), none], [], w3)))
  else
  some (.inl (46, [some (rV a0), some (iV a1), some (iV a2), none], [], w3))) else none := by
  rfl
set_option maxRecDepth 100000 in
theorem eX12_readSaid_46 (C : sC) (w : sW) (a0 a1 a2 : Int) : sg C mX12_readSaid 2000 46 [some (rV a0), some (iV a1), some (iV a2), none] [] w =
  if kd w a0 = 10 then
  if (gv w a0 36) = 20 then
   (if kd w a0 = 10 then
   bI (C 165 w [rV a0, iV 4]) (fun x2 w1 =>
   if x2 = 0 ∨ x2 = 1 then some (.inr (some (iV x2), w1)) else none) else none)
  else
  if kd w a0 = 10 then
  if (gv w a0 37) = 8 then
   (if kd w a0 = 10 then
   bI (C 165 w [rV a0, iV 4]) (fun x4 w3 =>
   if x4 = 0 ∨ x4 = 1 then some (.inr (some (iV x4), w3)) else none) else none)
  else
  if kd w a0 = 10 then
  if kd w a0 = 10 then
  wl (sv w a0 36 (w32 ((gv w a0 36) + 1))) (fun w5 =>
  if kd w5 a0 = 10 then
  if kd w5 a0 = 10 then
  wl (sv w5 a0 37 (w32 ((gv w5 a0 37) + 1))) (fun w6 =>
  if kd w6 a0 = 10 then
  bN (C 159 w6 [rV a0]) (fun w7 =>
  if a1 = 0 then
   (if a2 = 13 then
    (if kd w7 a0 = 10 then
    bI (C 269 w7 [rV a0]) (fun x9 w8 =>
    if kd w8 a0 = 10 then
    if kd w8 a0 = 10 then
    wl (sv w8 a0 37 (w32 ((gv w8 a0 37) - 1))) (fun w10 =>
    if x9 = 0 ∨ x9 = 1 then some (.inr (some (iV x9), w10)) else none) else none else none) else none)
   else
   if a2 < 16 then
    (if kd w7 a0 = 10 then
    bI (C 265 w7 [rV a0, iV (w32 (50 + a2)), iV 0, iV 0, iV 0]) (fun x12 w11 =>
    if kd w11 a0 = 10 then
    wl (sv w11 a0 38 x12) (fun w13 =>
    if kd w13 a0 = 10 then
    if kd w13 a0 = 10 then
    wl (sv w13 a0 37 (w32 ((gv w13 a0 37) - 1))) (fun w14 =>
    some (.inr (some (iV 1), w14))) else none else none) else none) else none)
   else
   if a2 < 18 then
    (if kd w7 a0 = 10 then
    bI (C 271 w7 [rV a0, iV a2]) (fun x16 w15 =>
    if kd w15 a0 = 10 then
    if kd w15 a0 = 10 then
    wl (sv w15 a0 37 (w32 ((gv w15 a0 37) - 1))) (fun w17 =>
    if x16 = 0 ∨ x16 = 1 then some (.inr (some (iV x16), w17)) else none) else none else none) else none)
   else
   if kd w7 a0 = 10 then
   bI (C 272 w7 [rV a0, iV a2]) (fun x19 w18 =>
   if kd w18 a0 = 10 then
   if kd w18 a0 = 10 then
   wl (sv w18 a0 37 (w32 ((gv w18 a0 37) - 1))) (fun w20 =>
   if x19 = 0 ∨ x19 = 1 then some (.inr (some (iV x19), w20)) else none) else none else none) else none)
  else
  if kd w7 a0 = 10 then
  bI (C 270 w7 [rV a0]) (fun x22 w21 =>
  if kd w21 a0 = 10 then
  if kd w21 a0 = 10 then
  wl (sv w21 a0 37 (w32 ((gv w21 a0 37) - 1))) (fun w23 =>
  if x22 = 0 ∨ x22 = 1 then some (.inr (some (iV x22), w23)) else none) else none else none) else none) else none) else none else none) else none else none else none else none := by
  rfl
set_option maxRecDepth 100000 in
theorem eX12_readNot_0 (C : sC) (w : sW) (a0 : Int) : sg C mX12_readNot 2000 0 [some (rV a0)] [] w =
  if kd w a0 = 10 then
  bI (C 268 w [rV a0]) (fun x2 w1 =>
  if x2 = 0 then
   (some (.inr (some (iV 0), w1)))
  else
  if kd w1 a0 = 10 then
  if kd w1 a0 = 10 then
  bI (C 265 w1 [rV a0, iV 1, iV (gv w1 a0 38), iV 0, iV 0]) (fun x4 w3 =>
  if kd w3 a0 = 10 then
  wl (sv w3 a0 38 x4) (fun w5 =>
  some (.inr (some (iV 1), w5))) else none) else none else none) else none := by
  rfl
set_option maxRecDepth 100000 in
theorem eX12_readBracket_0 (C : sC) (w : sW) (a0 : Int) : sg C mX12_readBracket 2000 0 [some (rV a0)] [] w =
  if kd w a0 = 10 then
  bI (C 266 w [rV a0]) (fun x2 w1 =>
  if x2 = 0 then
   (some (.inr (some (iV 0), w1)))
  else
  if kd w1 a0 = 10 then
  bI (C 163 w1 [rV a0, iV 41]) (fun x4 w3 =>
  if x4 = 0 then
   (if kd w3 a0 = 10 then
   bI (C 165 w3 [rV a0, iV 1]) (fun x6 w5 =>
   if x6 = 0 ∨ x6 = 1 then some (.inr (some (iV x6), w5)) else none) else none)
  else
  if kd w3 a0 = 10 then
  bN (C 159 w3 [rV a0]) (fun w7 =>
  some (.inr (some (iV 1), w7))) else none) else none) else none := by
  rfl
set_option maxRecDepth 100000 in
theorem eX12_readOf_0 (C : sC) (w : sW) (a0 a1 : Int) : sg C mX12_readOf 2000 0 [some (rV a0), some (iV a1)] [] w =
  if kd w a0 = 10 then
  bI (C 255 w [rV a0]) (fun x2 w1 =>
  if x2 = 0 then
   (some (.inr (some (iV 0), w1)))
  else
  if kd w1 a0 = 10 then
  if kd w1 a0 = 10 then
  bI (C 265 w1 [rV a0, iV (w32 (50 + a1)), iV (gv w1 a0 13), iV 0, iV 0]) (fun x4 w3 =>
  if kd w3 a0 = 10 then
  wl (sv w3 a0 38 x4) (fun w5 =>
  some (.inr (some (iV 1), w5))) else none) else none else none) else none := by
  rfl
set_option maxRecDepth 100000 in
theorem eX12_readCompare_0 (C : sC) (w : sW) (a0 a1 : Int) : sg C mX12_readCompare 2000 0 [some (rV a0), some (iV a1), none] [] w =
  if kd w a0 = 10 then
  bI (C 163 w [rV a0, iV 60]) (fun x2 w1 =>
  if x2 = 0 then
   (if kd w1 a0 = 10 then
   bI (C 163 w1 [rV a0, iV 61]) (fun x4 w3 =>
   if x4 = 0 then
    (if kd w3 a0 = 10 then
    bI (C 163 w3 [rV a0, iV 62]) (fun x6 w5 =>
    if x6 = 0 then
     (if kd w5 a0 = 10 then
     bI (C 165 w5 [rV a0, iV 1]) (fun x8 w7 =>
     if x8 = 0 ∨ x8 = 1 then some (.inr (some (iV x8), w7)) else none) else none)
    else
    some (.inl (33, [some (rV a0), some (iV a1), none], [], w5))) else none)
   else
   some (.inl (33, [some (rV a0), some (iV a1), none], [], w3))) else none)
  else
  some (.inl (33, [some (rV a0), some (iV a1), none], [], w1))) else none := by
  rfl
set_option maxRecDepth 100000 in
theorem eX12_readCompare_33 (C : sC) (w : sW) (a0 a1 : Int) : sg C mX12_readCompare 2000 33 [some (rV a0), some (iV a1), none] [] w =
  if kd w a0 = 10 then
  if kd w a0 = 10 then
  bN (C 159 w [rV a0]) (fun w1 =>
  if kd w1 a0 = 10 then
  bI (C 166 w1 [rV a0, iV 0, iV 999]) (fun x3 w2 =>
  if x3 = 0 then
   (some (.inr (some (iV 0), w2)))
  else
  if kd w2 a0 = 10 then
  if kd w2 a0 = 10 then
  bI (C 265 w2 [rV a0, iV (w32 (50 + a1)), iV 0, iV (gv w2 a0 13), iV (gv w a0 9)]) (fun x5 w4 =>
  if kd w4 a0 = 10 then
  wl (sv w4 a0 38 x5) (fun w6 =>
  some (.inr (some (iV 1), w6))) else none) else none else none) else none) else none else none := by
  rfl
set_option maxRecDepth 100000 in
theorem eX12_sentence_0 (C : sC) (w : sW) (a0 : Int) : sg C mX12_sentence 2000 0 [some (rV a0), none] [] w =
  if kd w a0 = 10 then
  bN (C 168 w [rV a0, iV 200]) (fun w1 =>
  if kd w1 a0 = 10 then
  wl (sv w1 a0 35 0) (fun w2 =>
  if kd w2 a0 = 10 then
  wl (sv w2 a0 36 0) (fun w3 =>
  if kd w3 a0 = 10 then
  wl (sv w3 a0 37 0) (fun w4 =>
  if kd w4 a0 = 10 then
  bI (C 266 w4 [rV a0]) (fun x6 w5 =>
  if x6 = 0 then
   (if kd w5 a0 = 10 then
   some (.inr (some (iV (w32 ((-1) - (gv w5 a0 11)))), w5)) else none)
  else
  if kd w5 a0 = 10 then
  if (gv w5 a0 7) = 0 then
   (if kd w5 a0 = 10 then
   if (kd w5 (gv w5 a0 14) = 20 ∧ 32 ≤ (gv w5 a0 14)) ∧ 0 ≤ (5820 : Int) ∧ (5820 : Int) < ln w5 (gv w5 a0 14) then
   wl (sv w5 (gv w5 a0 14) 5820 1) (fun w7 =>
   if kd w7 a0 = 10 then
   if kd w7 a0 = 10 then
   if (kd w7 (gv w7 a0 14) = 20 ∧ 32 ≤ (gv w7 a0 14)) ∧ 0 ≤ (5821 : Int) ∧ (5821 : Int) < ln w7 (gv w7 a0 14) then
   wl (sv w7 (gv w7 a0 14) 5821 (gv w7 a0 38)) (fun w8 =>
   some (.inl (79, [some (rV a0), some (iV 0)], [], w8))) else none else none else none) else none else none)
  else
  if kd w5 a0 = 10 then
  bI (C 165 w5 [rV a0, iV 1]) (fun x10 w9 =>
  if kd w9 a0 = 10 then
  some (.inr (some (iV (w32 ((-1) - (gv w9 a0 11)))), w9)) else none) else none else none) else none) else none) else none) else none) else none := by
  rfl
set_option maxRecDepth 100000 in
theorem eX12_sentence_79 (C : sC) (w : sW) (a0 a1 : Int) : sg C mX12_sentence 2000 79 [some (rV a0), some (iV a1)] [] w =
  if a1 < 240 then
   (if kd w a0 = 10 then
   if kd w a0 = 10 then
   if kd w (gv w a0 34) = 20 ∧ 0 ≤ a1 ∧ a1 < ln w (gv w a0 34) then
   if (kd w (gv w a0 14) = 20 ∧ 32 ≤ (gv w a0 14)) ∧ 0 ≤ (w32 (5822 + a1)) ∧ (w32 (5822 + a1)) < ln w (gv w a0 14) then
   wl (sv w (gv w a0 14) (w32 (5822 + a1)) (gv w (gv w a0 34) a1)) (fun w1 =>
   some (.inl (79, [some (rV a0), some (iV (w32 (a1 + 1)))], [], w1))) else none else none else none else none)
  else
  if kd w a0 = 10 then
  some (.inr (some (iV (gv w a0 36)), w)) else none := by
  rfl
set_option maxRecDepth 100000 in
theorem eX12_holds_0 (C : sC) (w : sW) (a0 a1 a2 : Int) : sg C mX12_holds 2000 0 [some (rV a0), some (iV a1), some (iV a2), none, none, none, none, none] [] w =
  if kd w a0 = 10 then
  if kd w (gv w a0 14) = 20 ∧ 0 ≤ (w32 ((w32 (5822 + (w32 (4 * a1)))) + 1)) ∧ (w32 ((w32 (5822 + (w32 (4 * a1)))) + 1)) < ln w (gv w a0 14) then
  if kd w a0 = 10 then
  if kd w (gv w a0 14) = 20 ∧ 0 ≤ (w32 ((w32 (5822 + (w32 (4 * a1)))) + 2)) ∧ (w32 ((w32 (5822 + (w32 (4 * a1)))) + 2)) < ln w (gv w a0 14) then
  if kd w a0 = 10 then
  if kd w (gv w a0 14) = 20 ∧ 0 ≤ (w32 (5822 + (w32 (4 * a1)))) ∧ (w32 (5822 + (w32 (4 * a1)))) < ln w (gv w a0 14) then
  if (gv w (gv w a0 14) (w32 (5822 + (w32 (4 * a1))))) = 1 then
   (if kd w a0 = 10 then
   bI (C 274 w [rV a0, iV (gv w (gv w a0 14) (w32 ((w32 (5822 + (w32 (4 * a1)))) + 1))), iV a2]) (fun x2 w1 =>
   if x2 = 0 then
    (some (.inr (some (iV 1), w1)))
   else
   some (.inr (some (iV 0), w1))) else none)
  else if (gv w (gv w a0 14) (w32 (5822 + (w32 (4 * a1))))) = 2 then
   (if kd w a0 = 10 then
   bI (C 274 w [rV a0, iV (gv w (gv w a0 14) (w32 ((w32 (5822 + (w32 (4 * a1)))) + 1))), iV a2]) (fun x4 w3 =>
   if x4 = 0 then
    (some (.inr (some (iV 0), w3)))
   else
   if kd w3 a0 = 10 then
   bI (C 274 w3 [rV a0, iV (gv w (gv w a0 14) (w32 ((w32 (5822 + (w32 (4 * a1)))) + 2))), iV a2]) (fun x6 w5 =>
   if x6 = 0 then
    (some (.inr (some (iV 0), w5)))
   else
   some (.inr (some (iV 1), w5))) else none) else none)
  else if (gv w (gv w a0 14) (w32 (5822 + (w32 (4 * a1))))) = 3 then
   (if kd w a0 = 10 then
   bI (C 274 w [rV a0, iV (gv w (gv w a0 14) (w32 ((w32 (5822 + (w32 (4 * a1)))) + 1))), iV a2]) (fun x8 w7 =>
   if x8 = 0 then
    (if kd w7 a0 = 10 then
    bI (C 274 w7 [rV a0, iV (gv w (gv w a0 14) (w32 ((w32 (5822 + (w32 (4 * a1)))) + 2))), iV a2]) (fun x10 w9 =>
    if x10 = 0 then
     (some (.inr (some (iV 0), w9)))
    else
    some (.inr (some (iV 1), w9))) else none)
   else
   some (.inr (some (iV 1), w7))) else none)
  else if (gv w (gv w a0 14) (w32 (5822 + (w32 (4 * a1))))) = 64 then
   (if kd w a0 = 10 then
   bI (C 180 w [rV a0, iV a2]) (fun x12 w11 =>
   if x12 = 0 then
    (some (.inr (some (iV 1), w11)))
   else
   some (.inr (some (iV 0), w11))) else none)
  else if (gv w (gv w a0 14) (w32 (5822 + (w32 (4 * a1))))) = 65 then
   (if kd w a0 = 10 then
   bI (C 264 w [rV a0, iV a2]) (fun x14 w13 =>
   if (2 : Int) = 0 then none else
   if (Int.tmod x14 2) = 0 then
    (some (.inr (some (iV 1), w13)))
   else
   some (.inr (some (iV 0), w13))) else none)
  else if (gv w (gv w a0 14) (w32 (5822 + (w32 (4 * a1))))) = 66 then
   (if kd w a0 = 10 then
   bI (C 216 w [rV a0, iV a2, iV (gv w (gv w a0 14) (w32 ((w32 (5822 + (w32 (4 * a1)))) + 1)))]) (fun x16 w15 =>
   if x16 = 0 ∨ x16 = 1 then some (.inr (some (iV x16), w15)) else none) else none)
  else if (gv w (gv w a0 14) (w32 (5822 + (w32 (4 * a1))))) = 67 then
   (if kd w a0 = 10 then
   bI (C 263 w [rV a0, iV a2, iV (gv w (gv w a0 14) (w32 ((w32 (5822 + (w32 (4 * a1)))) + 1)))]) (fun x18 w17 =>
   if x18 = 0 ∨ x18 = 1 then some (.inr (some (iV x18), w17)) else none) else none)
  else if kd w a0 = 10 then
  if kd w (gv w a0 14) = 20 ∧ 0 ≤ (w32 (5822 + (w32 (4 * a1)))) ∧ (w32 (5822 + (w32 (4 * a1)))) < ln w (gv w a0 14) then
  if (w32 ((gv w (gv w a0 14) (w32 (5822 + (w32 (4 * a1))))) - 50)) = 18 then
   (if kd w a0 = 10 then
   bI (C 180 w [rV a0, iV a2]) (fun x20 w19 =>
   if kd w19 a0 = 10 then
   if kd w19 (gv w19 a0 14) = 20 ∧ 0 ≤ (w32 ((w32 (5822 + (w32 (4 * a1)))) + 3)) ∧ (w32 ((w32 (5822 + (w32 (4 * a1)))) + 3)) < ln w19 (gv w19 a0 14) then
   if (gv w19 (gv w19 a0 14) (w32 ((w32 (5822 + (w32 (4 * a1)))) + 3))) = 60 then
    (if x20 < (gv w (gv w a0 14) (w32 ((w32 (5822 + (w32 (4 * a1)))) + 2))) then
     (some (.inr (some (iV 1), w19)))
    else
    some (.inr (some (iV 0), w19)))
   else
   if kd w19 a0 = 10 then
   if kd w19 (gv w19 a0 14) = 20 ∧ 0 ≤ (w32 ((w32 (5822 + (w32 (4 * a1)))) + 3)) ∧ (w32 ((w32 (5822 + (w32 (4 * a1)))) + 3)) < ln w19 (gv w19 a0 14) then
   if (gv w19 (gv w19 a0 14) (w32 ((w32 (5822 + (w32 (4 * a1)))) + 3))) = 61 then
    (if x20 = (gv w (gv w a0 14) (w32 ((w32 (5822 + (w32 (4 * a1)))) + 2))) then
     (some (.inr (some (iV 1), w19)))
    else
    some (.inr (some (iV 0), w19)))
   else
   if (gv w (gv w a0 14) (w32 ((w32 (5822 + (w32 (4 * a1)))) + 2))) < x20 then
    (some (.inr (some (iV 1), w19)))
   else
   some (.inr (some (iV 0), w19)) else none else none else none else none) else none)
  else
  if (w32 ((gv w (gv w a0 14) (w32 (5822 + (w32 (4 * a1))))) - 50)) = 19 then
   (if kd w a0 = 10 then
   bI (C 264 w [rV a0, iV a2]) (fun x22 w21 =>
   if kd w21 a0 = 10 then
   if kd w21 (gv w21 a0 14) = 20 ∧ 0 ≤ (w32 ((w32 (5822 + (w32 (4 * a1)))) + 3)) ∧ (w32 ((w32 (5822 + (w32 (4 * a1)))) + 3)) < ln w21 (gv w21 a0 14) then
   if (gv w21 (gv w21 a0 14) (w32 ((w32 (5822 + (w32 (4 * a1)))) + 3))) = 60 then
    (if x22 < (gv w (gv w a0 14) (w32 ((w32 (5822 + (w32 (4 * a1)))) + 2))) then
     (some (.inr (some (iV 1), w21)))
    else
    some (.inr (some (iV 0), w21)))
   else
   if kd w21 a0 = 10 then
   if kd w21 (gv w21 a0 14) = 20 ∧ 0 ≤ (w32 ((w32 (5822 + (w32 (4 * a1)))) + 3)) ∧ (w32 ((w32 (5822 + (w32 (4 * a1)))) + 3)) < ln w21 (gv w21 a0 14) then
   if (gv w21 (gv w21 a0 14) (w32 ((w32 (5822 + (w32 (4 * a1)))) + 3))) = 61 then
    (if x22 = (gv w (gv w a0 14) (w32 ((w32 (5822 + (w32 (4 * a1)))) + 2))) then
     (some (.inr (some (iV 1), w21)))
    else
    some (.inr (some (iV 0), w21)))
   else
   if (gv w (gv w a0 14) (w32 ((w32 (5822 + (w32 (4 * a1)))) + 2))) < x22 then
    (some (.inr (some (iV 1), w21)))
   else
   some (.inr (some (iV 0), w21)) else none else none else none else none) else none)
  else
  if (w32 ((gv w (gv w a0 14) (w32 (5822 + (w32 (4 * a1))))) - 50)) = 20 then
   (if kd w a0 = 10 then
   bI (C 197 w [rV a0, iV a2]) (fun x24 w23 =>
   if kd w23 a0 = 10 then
   if kd w23 (gv w23 a0 14) = 20 ∧ 0 ≤ (w32 ((w32 (5822 + (w32 (4 * a1)))) + 3)) ∧ (w32 ((w32 (5822 + (w32 (4 * a1)))) + 3)) < ln w23 (gv w23 a0 14) then
   if (gv w23 (gv w23 a0 14) (w32 ((w32 (5822 + (w32 (4 * a1)))) + 3))) = 60 then
    (if x24 < (gv w (gv w a0 14) (w32 ((w32 (5822 + (w32 (4 * a1)))) + 2))) then
     (some (.inr (some (iV 1), w23)))
    else
    some (.inr (some (iV 0), w23)))
   else
   if kd w23 a0 = 10 then
   if kd w23 (gv w23 a0 14) = 20 ∧ 0 ≤ (w32 ((w32 (5822 + (w32 (4 * a1)))) + 3)) ∧ (w32 ((w32 (5822 + (w32 (4 * a1)))) + 3)) < ln w23 (gv w23 a0 14) then
   if (gv w23 (gv w23 a0 14) (w32 ((w32 (5822 + (w32 (4 * a1)))) + 3))) = 61 then
    (if x24 = (gv w (gv w a0 14) (w32 ((w32 (5822 + (w32 (4 * a1)))) + 2))) then
     (some (.inr (some (iV 1), w23)))
    else
    some (.inr (some (iV 0), w23)))
   else
   if (gv w (gv w a0 14) (w32 ((w32 (5822 + (w32 (4 * a1)))) + 2))) < x24 then
    (some (.inr (some (iV 1), w23)))
   else
   some (.inr (some (iV 0), w23)) else none else none else none else none) else none)
  else
  if (w32 ((gv w (gv w a0 14) (w32 (5822 + (w32 (4 * a1))))) - 50)) = 21 then
   (if kd w a0 = 10 then
   if kd w (gv w a0 14) = 20 ∧ 0 ≤ (w32 (2611 + a2)) ∧ (w32 (2611 + a2)) < ln w (gv w a0 14) then
   if kd w a0 = 10 then
   if kd w (gv w a0 14) = 20 ∧ 0 ≤ (w32 ((w32 (5822 + (w32 (4 * a1)))) + 3)) ∧ (w32 ((w32 (5822 + (w32 (4 * a1)))) + 3)) < ln w (gv w a0 14) then
   if (gv w (gv w a0 14) (w32 ((w32 (5822 + (w32 (4 * a1)))) + 3))) = 60 then
    (if (gv w (gv w a0 14) (w32 (2611 + a2))) < (gv w (gv w a0 14) (w32 ((w32 (5822 + (w32 (4 * a1)))) + 2))) then
     (some (.inr (some (iV 1), w)))
    else
    some (.inr (some (iV 0), w)))
   else
   if kd w a0 = 10 then
   if kd w (gv w a0 14) = 20 ∧ 0 ≤ (w32 ((w32 (5822 + (w32 (4 * a1)))) + 3)) ∧ (w32 ((w32 (5822 + (w32 (4 * a1)))) + 3)) < ln w (gv w a0 14) then
   if (gv w (gv w a0 14) (w32 ((w32 (5822 + (w32 (4 * a1)))) + 3))) = 61 then
    (if (gv w (gv w a0 14) (w32 (2611 + a2))) = (gv w (gv w a0 14) (w32 ((w32 (5822 + (w32 (4 * a1)))) + 2))) then
     (some (.inr (some (iV 1), w)))
    else
    some (.inr (some (iV 0), w)))
   else
   if (gv w (gv w a0 14) (w32 ((w32 (5822 + (w32 (4 * a1)))) + 2))) < (gv w (gv w a0 14) (w32 (2611 + a2))) then
    (some (.inr (some (iV 1), w)))
   else
   some (.inr (some (iV 0), w)) else none else none else none else none else none else none)
  else
  if kd w a0 = 10 then
  if kd w (gv w a0 14) = 20 ∧ 0 ≤ (w32 ((w32 (5822 + (w32 (4 * a1)))) + 3)) ∧ (w32 ((w32 (5822 + (w32 (4 * a1)))) + 3)) < ln w (gv w a0 14) then
  if (gv w (gv w a0 14) (w32 ((w32 (5822 + (w32 (4 * a1)))) + 3))) = 60 then
   (if a2 < (gv w (gv w a0 14) (w32 ((w32 (5822 + (w32 (4 * a1)))) + 2))) then
    (some (.inr (some (iV 1), w)))
   else
   some (.inr (some (iV 0), w)))
  else
  if kd w a0 = 10 then
  if kd w (gv w a0 14) = 20 ∧ 0 ≤ (w32 ((w32 (5822 + (w32 (4 * a1)))) + 3)) ∧ (w32 ((w32 (5822 + (w32 (4 * a1)))) + 3)) < ln w (gv w a0 14) then
  if (gv w (gv w a0 14) (w32 ((w32 (5822 + (w32 (4 * a1)))) + 3))) = 61 then
   (if a2 = (gv w (gv w a0 14) (w32 ((w32 (5822 + (w32 (4 * a1)))) + 2))) then
    (some (.inr (some (iV 1), w)))
   else
   some (.inr (some (iV 0), w)))
  else
  if (gv w (gv w a0 14) (w32 ((w32 (5822 + (w32 (4 * a1)))) + 2))) < a2 then
   (some (.inr (some (iV 1), w)))
  else
  some (.inr (some (iV 0), w)) else none else none else none else none else none else none else none else none else none else none else none else none := by
  rfl
set_option maxRecDepth 100000 in
theorem eX12_said_0 (C : sC) (w : sW) (a0 a1 : Int) : sg C mX12_said 2000 0 [some (rV a0), some (iV a1), none, none] [] w =
  if kd w a0 = 10 then
  wl (sv w a0 0 0) (fun w1 =>
  if kd w1 a0 = 10 then
  if kd w1 (gv w1 a0 14) = 20 ∧ 0 ≤ (5820 : Int) ∧ (5820 : Int) < ln w1 (gv w1 a0 14) then
  if (gv w1 (gv w1 a0 14) 5820) = 0 then
   (some (.inr (some (iV (-1)), w1)))
  else
  some (.inl (22, [some (rV a0), some (iV a1), some (iV 0), some (iV 0)], [], w1)) else none else none) else none := by
  rfl
set_option maxRecDepth 100000 in
theorem eX12_said_22 (C : sC) (w : sW) (a0 a1 a2 a3 : Int) : sg C mX12_said 2000 22 [some (rV a0), some (iV a1), some (iV a2), some (iV a3)] [] w =
  if kd w a0 = 10 then
  if kd w (gv w a0 14) = 20 ∧ 0 ≤ (0 : Int) ∧ (0 : Int) < ln w (gv w a0 14) then
  if a3 < (gv w (gv w a0 14) 0) then
   (if kd w a0 = 10 then
   if kd w (gv w a0 14) = 20 ∧ 0 ≤ (5821 : Int) ∧ (5821 : Int) < ln w (gv w a0 14) then
   if kd w a0 = 10 then
   bI (C 274 w [rV a0, iV (gv w (gv w a0 14) 5821), iV a3]) (fun x2 w1 =>
   if x2 = 0 then
    (some (.inl (22, [some (rV a0), some (iV a1), some (iV a2), some (iV (w32 (a3 + 1)))], [], w1)))
   else
   if a2 = a1 then
    (some (.inr (some (iV a3), w1)))
   else
   some (.inl (22, [some (rV a0), some (iV a1), some (iV (w32 (a2 + 1))), some (iV (w32 (a3 + 1)))], [], w1))) else none else none else none)
  else
  if a1 = (-1) then
   (some (.inr (some (iV a2), w)))
  else
  some (.inr (some (iV (-1)), w)) else none else none := by
  rfl
set_option maxRecDepth 100000 in
theorem eX12_image_0 (C : sC) (w : sW) (a0 a1 : Int) : sg C mX12_image 2000 0 [some (rV a0), some (iV a1), none] [] w =
  if kd w a0 = 10 then
  wl (sv w a0 0 0) (fun w1 =>
  bI (C 155 w1 [iV a1, iV 0, iV 1]) (fun x3 w2 =>
  if x3 = 0 then
   (some (.inr (some (iV 0), w2)))
  else
  some (.inl (18, [some (rV a0), some (iV a1), some (iV 0)], [], w2)))) else none := by
  rfl
set_option maxRecDepth 100000 in
theorem eX12_image_18 (C : sC) (w : sW) (a0 a1 a2 : Int) : sg C mX12_image 2000 18 [some (rV a0), some (iV a1), some (iV a2)] [] w =
  if a2 < 6062 then
   (if kd w a0 = 10 then
   if kd w a0 = 10 then
   if kd w (gv w a0 14) = 20 ∧ 0 ≤ a2 ∧ a2 < ln w (gv w a0 14) then
   if (kd w (gv w a0 16) = 20 ∧ 32 ≤ (gv w a0 16)) ∧ 0 ≤ (w32 ((w32 (6062 * a1)) + a2)) ∧ (w32 ((w32 (6062 * a1)) + a2)) < ln w (gv w a0 16) then
   wl (sv w (gv w a0 16) (w32 ((w32 (6062 * a1)) + a2)) (gv w (gv w a0 14) a2)) (fun w1 =>
   some (.inl (18, [some (rV a0), some (iV a1), some (iV (w32 (a2 + 1)))], [], w1))) else none else none else none else none)
  else
  some (.inl (51, [some (rV a0), some (iV a1), some (iV 0)], [], w)) := by
  rfl
set_option maxRecDepth 100000 in
theorem eX12_image_51 (C : sC) (w : sW) (a0 a1 a2 : Int) : sg C mX12_image 2000 51 [some (rV a0), some (iV a1), some (iV a2)] [] w =
  if a2 < 4 then
   (if kd w a0 = 10 then
   if kd w a0 = 10 then
   if kd w (gv w a0 20) = 22 ∧ 0 ≤ a2 ∧ a2 < ln w (gv w a0 20) then
   if kd w (gv w a0 22) = 22 ∧ 0 ≤ (w32 ((w32 (4 * a1)) + a2)) ∧ (w32 ((w32 (4 * a1)) + a2)) < ln w (gv w a0 22) then
   wl (sv w (gv w a0 22) (w32 ((w32 (4 * a1)) + a2)) (gv w (gv w a0 20) a2)) (fun w1 =>
   some (.inl (51, [some (rV a0), some (iV a1), some (iV (w32 (a2 + 1)))], [], w1))) else none else none else none else none)
  else
  if kd w a0 = 10 then
  if ((kd w (gv w a0 23) = 21 ∧ -128 ≤ (1 : Int) ∧ (1 : Int) < 128) ∨ (kd w (gv w a0 23) = 23 ∧ ((1 : Int) = 0 ∨ (1 : Int) = 1))) ∧ 0 ≤ a1 ∧ a1 < ln w (gv w a0 23) then
  wl (sv w (gv w a0 23) a1 1) (fun w2 =>
  some (.inr (some (iV 1), w2))) else none else none := by
  rfl
set_option maxRecDepth 100000 in
theorem eX12_restore_0 (C : sC) (w : sW) (a0 a1 : Int) : sg C mX12_restore 2000 0 [some (rV a0), some (iV a1), none] [] w =
  if kd w a0 = 10 then
  wl (sv w a0 0 0) (fun w1 =>
  bI (C 155 w1 [iV a1, iV 0, iV 1]) (fun x3 w2 =>
  if x3 = 0 then
   (some (.inr (some (iV 0), w2)))
  else
  if kd w2 a0 = 10 then
  if (kd w2 (gv w2 a0 23) = 21 ∨ kd w2 (gv w2 a0 23) = 23) ∧ 0 ≤ a1 ∧ a1 < ln w2 (gv w2 a0 23) then
  if (gv w2 (gv w2 a0 23) a1) = 0 then
   (some (.inr (some (iV 0), w2)))
  else
  some (.inl (27, [some (rV a0), some (iV a1), some (iV 0)], [], w2)) else none else none)) else none := by
  rfl
set_option maxRecDepth 100000 in
theorem eX12_restore_27 (C : sC) (w : sW) (a0 a1 a2 : Int) : sg C mX12_restore 2000 27 [some (rV a0), some (iV a1), some (iV a2)] [] w =
  if a2 < 6062 then
   (if kd w a0 = 10 then
   if kd w a0 = 10 then
   if kd w (gv w a0 16) = 20 ∧ 0 ≤ (w32 ((w32 (6062 * a1)) + a2)) ∧ (w32 ((w32 (6062 * a1)) + a2)) < ln w (gv w a0 16) then
   if (kd w (gv w a0 14) = 20 ∧ 32 ≤ (gv w a0 14)) ∧ 0 ≤ a2 ∧ a2 < ln w (gv w a0 14) then
   wl (sv w (gv w a0 14) a2 (gv w (gv w a0 16) (w32 ((w32 (6062 * a1)) + a2)))) (fun w1 =>
   some (.inl (27, [some (rV a0), some (iV a1), some (iV (w32 (a2 + 1)))], [], w1))) else none else none else none else none)
  else
  some (.inl (60, [some (rV a0), some (iV a1), some (iV 0)], [], w)) := by
  rfl
set_option maxRecDepth 100000 in
theorem eX12_restore_60 (C : sC) (w : sW) (a0 a1 a2 : Int) : sg C mX12_restore 2000 60 [some (rV a0), some (iV a1), some (iV a2)] [] w =
  if a2 < 4 then
   (if kd w a0 = 10 then
   if kd w a0 = 10 then
   if kd w (gv w a0 22) = 22 ∧ 0 ≤ (w32 ((w32 (4 * a1)) + a2)) ∧ (w32 ((w32 (4 * a1)) + a2)) < ln w (gv w a0 22) then
   if kd w (gv w a0 20) = 22 ∧ 0 ≤ a2 ∧ a2 < ln w (gv w a0 20) then
   wl (sv w (gv w a0 20) a2 (gv w (gv w a0 22) (w32 ((w32 (4 * a1)) + a2)))) (fun w1 =>
   some (.inl (60, [some (rV a0), some (iV a1), some (iV (w32 (a2 + 1)))], [], w1))) else none else none else none else none)
  else
  if kd w a0 = 10 then
  wl (sv w a0 24 0) (fun w2 =>
  some (.inr (some (iV 1), w2))) else none := by
  rfl
set_option maxRecDepth 100000 in
theorem eX12_total_0 (C : sC) (w : sW) (a0 a1 : Int) : sg C mX12_total 2000 0 [some (rV a0), some (iV a1)] [] w =
  if kd w a0 = 10 then
  wl (sv w a0 0 0) (fun w1 =>
  if a1 = 0 then
   (if kd w1 a0 = 10 then
   if kd w1 (gv w1 a0 14) = 20 ∧ 0 ≤ (0 : Int) ∧ (0 : Int) < ln w1 (gv w1 a0 14) then
   some (.inr (some (iV (gv w1 (gv w1 a0 14) 0)), w1)) else none else none)
  else if a1 = 1 then
   (if kd w1 a0 = 10 then
   if kd w1 (gv w1 a0 14) = 20 ∧ 0 ≤ (1 : Int) ∧ (1 : Int) < ln w1 (gv w1 a0 14) then
   some (.inr (some (iV (gv w1 (gv w1 a0 14) 1)), w1)) else none else none)
  else if a1 = 2 then
   (if kd w1 a0 = 10 then
   bI (C 259 w1 [rV a0]) (fun x3 w2 =>
   some (.inr (some (iV x3), w2))) else none)
  else if a1 = 3 then
   (if kd w1 a0 = 10 then
   some (.inr (some (iV (gv w1 a0 2)), w1)) else none)
  else some (.inr (some (iV (-1)), w1))) else none := by
  rfl
