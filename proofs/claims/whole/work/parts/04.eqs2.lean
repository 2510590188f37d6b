set_option maxRecDepth 100000 in
theorem eX11_init_0 (C : sC) (w : sW) (a0 : Int) : sg C mX11_init 2000 0 [some (rV a0)] [] w =
  if kd w a0 = 9 then
  if 0 ≤ (940 : Int) ∧ (940 : Int) ≤ 100000 then
  wl (al w 20 940 (Int.toNat 940)) (fun w1 =>
  if kd w1 a0 = 9 then
  wl (sv w1 a0 0 (nx w)) (fun w2 =>
  wl (al w2 4 0 12) (fun w3 =>
  if kd w3 (nx w2) = 4 then
  bN (C 14 w3 [rV (nx w2)]) (fun w4 =>
  if kd w4 a0 = 9 then
  wl (sv w4 a0 2 (nx w2)) (fun w5 =>
  wl (al w5 8 0 6) (fun w6 =>
  if kd w6 (nx w5) = 8 then
  bN (C 75 w6 [rV (nx w5)]) (fun w7 =>
  if kd w7 a0 = 9 then
  wl (sv w7 a0 3 (nx w5)) (fun w8 =>
  wl (al w8 8 0 6) (fun w9 =>
  if kd w9 (nx w8) = 8 then
  bN (C 75 w9 [rV (nx w8)]) (fun w10 =>
  if kd w10 a0 = 9 then
  wl (sv w10 a0 4 (nx w8)) (fun w11 =>
  wl (al w11 7 0 6) (fun w12 =>
  if kd w12 (nx w11) = 7 then
  bN (C 64 w12 [rV (nx w11)]) (fun w13 =>
  if kd w13 a0 = 9 then
  wl (sv w13 a0 5 (nx w11)) (fun w14 =>
  wl (al w14 7 0 6) (fun w15 =>
  if kd w15 (nx w14) = 7 then
  bN (C 64 w15 [rV (nx w14)]) (fun w16 =>
  if kd w16 a0 = 9 then
  wl (sv w16 a0 6 (nx w14)) (fun w17 =>
  wl (al w17 1 0 6) (fun w18 =>
  if kd w18 (nx w17) = 1 then
  bN (C 0 w18 [rV (nx w17)]) (fun w19 =>
  if kd w19 a0 = 9 then
  wl (sv w19 a0 7 (nx w17)) (fun w20 =>
  wl (al w20 3 0 3) (fun w21 =>
  if kd w21 (nx w20) = 3 then
  bN (C 10 w21 [rV (nx w20)]) (fun w22 =>
  if kd w22 a0 = 9 then
  wl (sv w22 a0 8 (nx w20)) (fun w23 =>
  if 0 ≤ (2 : Int) ∧ (2 : Int) ≤ 100000 then
  wl (al w23 25 2 (Int.toNat 2)) (fun w24 =>
  if kd w24 a0 = 9 then
  wl (sv w24 a0 9 (nx w23)) (fun w25 =>
  if 0 ≤ (2 : Int) ∧ (2 : Int) ≤ 100000 then
  wl (al w25 26 2 (Int.toNat 2)) (fun w26 =>
  if kd w26 a0 = 9 then
  wl (sv w26 a0 10 (nx w25)) (fun w27 =>
  if 0 ≤ (600 : Int) ∧ (600 : Int) ≤ 100000 then
  wl (al w27 20 600 (Int.toNat 600)) (fun w28 =>
  if kd w28 a0 = 9 then
  wl (sv w28 a0 11 (nx w27)) (fun w29 =>
  if 0 ≤ (4 : Int) ∧ (4 : Int) ≤ 100000 then
  wl (al w29 20 4 (Int.toNat 4)) (fun w30 =>
  if (kd w30 (nx w29) = 20 ∧ 32 ≤ (nx w29)) ∧ 0 ≤ (0 : Int) ∧ (0 : Int) < ln w30 (nx w29) then
  wl (sv w30 (nx w29) 0 (-1)) (fun w31 =>
  if (kd w31 (nx w29) = 20 ∧ 32 ≤ (nx w29)) ∧ 0 ≤ (1 : Int) ∧ (1 : Int) < ln w31 (nx w29) then
  wl (sv w31 (nx w29) 1 (-1)) (fun w32 =>
  if (kd w32 (nx w29) = 20 ∧ 32 ≤ (nx w29)) ∧ 0 ≤ (2 : Int) ∧ (2 : Int) < ln w32 (nx w29) then
  wl (sv w32 (nx w29) 2 (-1)) (fun w33 =>
  if (kd w33 (nx w29) = 20 ∧ 32 ≤ (nx w29)) ∧ 0 ≤ (3 : Int) ∧ (3 : Int) < ln w33 (nx w29) then
  wl (sv w33 (nx w29) 3 (-1)) (fun w34 =>
  if kd w34 a0 = 9 then
  wl (sv w34 a0 14 (nx w29)) (fun w35 =>
  some (.inr (none, w35))) else none) else none) else none) else none) else none) else none) else none) else none) else none) else none) else none) else none) else none) else none)) else none) else none)) else none) else none)) else none) else none)) else none) else none)) else none) else none)) else none) else none)) else none) else none else none := by
  rfl
set_option maxRecDepth 100000 in
theorem eX11_feed_0 (C : sC) (w : sW) (a0 a1 a2 a3 a4 a5 : Int) : sg C mX11_feed 2000 0 [some (rV a0), some (iV a1), some (iV a2), some (iV a3), some (iV a4), some (iV a5)] [] w =
  if kd w a0 = 9 then
  if 940 < (w32 ((gv w a0 1) + 20)) then
   (some (.inr (some (iV (-1)), w)))
  else
  if kd w a0 = 9 then
  bN (C 97 w [rV a0, iV a1]) (fun w1 =>
  if kd w1 a0 = 9 then
  bN (C 97 w1 [rV a0, iV a2]) (fun w2 =>
  if kd w2 a0 = 9 then
  bN (C 97 w2 [rV a0, iV a3]) (fun w3 =>
  if kd w3 a0 = 9 then
  bN (C 97 w3 [rV a0, iV a4]) (fun w4 =>
  if kd w4 a0 = 9 then
  bN (C 97 w4 [rV a0, iV a5]) (fun w5 =>
  if kd w5 a0 = 9 then
  some (.inr (some (iV (gv w5 a0 1)), w5)) else none) else none) else none) else none) else none) else none else none := by
  rfl
set_option maxRecDepth 100000 in
theorem eX11_feedBytes_0 (C : sC) (w : sW) (a0 a1 : Int) : sg C mX11_feedBytes 2000 0 [some (rV a0), some (iV a1), none] [] w =
  some (.inl (3, [some (rV a0), some (iV a1), some (iV 24)], [], w)) := by
  rfl
set_option maxRecDepth 100000 in
theorem eX11_feedBytes_3 (C : sC) (w : sW) (a0 a1 a2 : Int) : sg C mX11_feedBytes 2000 3 [some (rV a0), some (iV a1), some (iV a2)] [] w =
  if a2 < 0 then
   (some (.inr (none, w)))
  else
  if kd w a0 = 9 then
  if (gv w a0 1) < 940 then
   (if kd w a0 = 9 then
   if kd w a0 = 9 then
   if (kd w (gv w a0 0) = 20 ∧ 32 ≤ (gv w a0 0)) ∧ 0 ≤ (gv w a0 1) ∧ (gv w a0 1) < ln w (gv w a0 0) then
   wl (sv w (gv w a0 0) (gv w a0 1) (f_iand (f_iushr a1 a2) 255)) (fun w1 =>
   if kd w1 a0 = 9 then
   if kd w1 a0 = 9 then
   wl (sv w1 a0 1 (w32 ((gv w1 a0 1) + 1))) (fun w2 =>
   some (.inl (3, [some (rV a0), some (iV a1), some (iV (w32 (a2 + (-8))))], [], w2))) else none else none) else none else none else none)
  else
  some (.inr (none, w)) else none := by
  rfl
set_option maxRecDepth 100000 in
theorem eX11_end_0 (C : sC) (w : sW) (a0 a1 : Int) : sg C mX11_end 2000 0 [some (rV a0), some (iV a1)] [] w =
  if a1 < 0 then
   (some (.inr (some (iV 0), w)))
  else
  if kd w a0 = 9 then
  if (gv w a0 1) < a1 then
   (some (.inr (some (iV 0), w)))
  else
  if kd w a0 = 9 then
  wl (sv w a0 1 a1) (fun w1 =>
  some (.inr (some (iV 1), w1))) else none else none := by
  rfl
set_option maxRecDepth 100000 in
theorem eX11_room_0 (C : sC) (w : sW) (a0 : Int) : sg C mX11_room 2000 0 [some (rV a0), none] [] w =
  if kd w a0 = 9 then
  if kd w a0 = 9 then
  if kd w a0 = 9 then
  if kd w (gv w a0 2) = 4 then
  bN (C 15 w [rV (gv w a0 2), rV (gv w a0 0), iV (gv w a0 1), iV 900]) (fun w1 =>
  if kd w1 a0 = 9 then
  if kd w1 a0 = 9 then
  if kd w1 (gv w1 a0 4) = 8 then
  bI (C 80 w1 [rV (gv w1 a0 4), rV (gv w1 a0 2)]) (fun x3 w2 =>
  if kd w2 a0 = 9 then
  bI (C 100 w2 [rV a0]) (fun x5 w4 =>
  if x5 = 0 then
   (if kd w4 a0 = 9 then
   bN (C 101 w4 [rV a0]) (fun w6 =>
   if kd w6 a0 = 9 then
   if kd w6 (gv w6 a0 5) = 7 then
   bN (C 65 w6 [rV (gv w6 a0 5)]) (fun w7 =>
   if kd w7 a0 = 9 then
   if kd w7 (gv w7 a0 8) = 3 then
   bN (C 11 w7 [rV (gv w7 a0 8)]) (fun w8 =>
   some (.inr (some (iV x3), w8))) else none else none) else none else none) else none)
  else
  if kd w4 a0 = 9 then
  if kd w4 (gv w4 a0 2) = 4 then
  some (.inr (some (iV (w32 ((-1) - (gv w4 (gv w4 a0 2) 11)))), w4)) else none else none) else none) else none else none else none) else none else none else none else none := by
  rfl
set_option maxRecDepth 100000 in
theorem eX11_closesWithFault_0 (C : sC) (w : sW) (a0 : Int) : sg C mX11_closesWithFault 2000 0 [some (rV a0)] [] w =
  if kd w a0 = 9 then
  wl (sv w a0 1 0) (fun w1 =>
  if kd w1 a0 = 9 then
  if kd w1 (gv w1 a0 2) = 4 then
  if kd w1 a0 = 9 then
  wl (sv w1 a0 13 (gv w1 (gv w1 a0 2) 10)) (fun w2 =>
  if kd w2 a0 = 9 then
  if (gv w2 a0 13) = 0 then
   (some (.inr (some (iV 0), w2)))
  else
  some (.inr (some (iV 1), w2)) else none) else none else none else none) else none := by
  rfl
set_option maxRecDepth 100000 in
theorem eX11_swapStates_0 (C : sC) (w : sW) (a0 : Int) : sg C mX11_swapStates 2000 0 [some (rV a0), none] [] w =
  if kd w a0 = 9 then
  if kd w a0 = 9 then
  if kd w a0 = 9 then
  wl (sv w a0 3 (gv w a0 4)) (fun w1 =>
  if kd w1 a0 = 9 then
  wl (sv w1 a0 4 (gv w a0 3)) (fun w2 =>
  some (.inr (none, w2))) else none) else none else none else none := by
  rfl
set_option maxRecDepth 100000 in
theorem eX11_fault_0 (C : sC) (w : sW) (a0 : Int) : sg C mX11_fault 2000 0 [some (rV a0)] [] w =
  if kd w a0 = 9 then
  some (.inr (some (iV (gv w a0 13)), w)) else none := by
  rfl
set_option maxRecDepth 100000 in
theorem eX11_size_0 (C : sC) (w : sW) (a0 a1 : Int) : sg C mX11_size 2000 0 [some (rV a0), some (iV a1), none] [] w =
  if kd w a0 = 9 then
  if kd w (gv w a0 3) = 8 then
  bR (C 77 w [rV (gv w a0 3), iV a1]) (fun r2 w1 =>
  if r2 = 0 then
   (some (.inr (some (iV (-1)), w1)))
  else
  if kd w1 r2 = 5 then
  some (.inr (some (iV (gv w1 r2 2)), w1)) else none) else none else none := by
  rfl
set_option maxRecDepth 100000 in
theorem eX11_bit_0 (C : sC) (w : sW) (a0 a1 a2 : Int) : sg C mX11_bit 2000 0 [some (rV a0), some (iV a1), some (iV a2), none] [] w =
  if kd w a0 = 9 then
  if kd w (gv w a0 3) = 8 then
  bR (C 77 w [rV (gv w a0 3), iV a1]) (fun r2 w1 =>
  if r2 = 0 then
   (some (.inr (some (iV (-1)), w1)))
  else
  if kd w1 r2 = 5 then
  bI (C 34 w1 [rV r2, iV a2]) (fun x4 w3 =>
  some (.inr (some (iV x4), w3))) else none) else none else none := by
  rfl
set_option maxRecDepth 100000 in
theorem eX11_rank_0 (C : sC) (w : sW) (a0 a1 a2 a3 : Int) : sg C mX11_rank 2000 0 [some (rV a0), some (iV a1), some (iV a2), some (iV a3), none] [] w =
  if kd w a0 = 9 then
  if kd w (gv w a0 3) = 8 then
  bR (C 77 w [rV (gv w a0 3), iV a1]) (fun r2 w1 =>
  if r2 = 0 then
   (some (.inr (some (iV (-1)), w1)))
  else
  bI (C 106 w1 [iV a3]) (fun x4 w3 =>
  if x4 = 0 then
   (some (.inr (some (iV (-1)), w3)))
  else
  if kd w3 r2 = 5 then
  bI (C 32 w3 [rV r2, iV a2]) (fun x6 w5 =>
  if x6 = 0 then
   (some (.inr (some (iV (-1)), w5)))
  else
  if kd w5 r2 = 5 then
  bI (C 35 w5 [rV r2, iV 0, iV a2, iV a3]) (fun x8 w7 =>
  some (.inr (some (iV x8), w7))) else none) else none)) else none else none := by
  rfl
set_option maxRecDepth 100000 in
theorem eX11_isBit_0 (C : sC) (w : sW) (a0 : Int) : sg C mX11_isBit 2000 0 [some (iV a0)] [] w =
  if a0 = 0 then
   (some (.inr (some (iV 1), w)))
  else
  if a0 = 1 then
   (some (.inr (some (iV 1), w)))
  else
  some (.inr (some (iV 0), w)) := by
  rfl
set_option maxRecDepth 100000 in
theorem eX11_select_0 (C : sC) (w : sW) (a0 a1 a2 a3 : Int) : sg C mX11_select 2000 0 [some (rV a0), some (iV a1), some (iV a2), some (iV a3), none] [] w =
  if kd w a0 = 9 then
  if kd w (gv w a0 3) = 8 then
  bR (C 77 w [rV (gv w a0 3), iV a1]) (fun r2 w1 =>
  if r2 = 0 then
   (some (.inr (some (iV (-1)), w1)))
  else
  bI (C 106 w1 [iV a3]) (fun x4 w3 =>
  if x4 = 0 then
   (some (.inr (some (iV (-1)), w3)))
  else
  if a2 < 0 then
   (some (.inr (some (iV (-1)), w3)))
  else
  if kd w3 r2 = 5 then
  bI (C 36 w3 [rV r2, iV a2, iV a3]) (fun x6 w5 =>
  some (.inr (some (iV x6), w5))) else none)) else none else none := by
  rfl
set_option maxRecDepth 100000 in
theorem eX11_find_0 (C : sC) (w : sW) (a0 a1 a2 a3 : Int) : sg C mX11_find 2000 0 [some (rV a0), some (iV a1), some (iV a2), some (iV a3), none] [] w =
  if kd w a0 = 9 then
  if kd w (gv w a0 3) = 8 then
  bR (C 77 w [rV (gv w a0 3), iV a1]) (fun r2 w1 =>
  if r2 = 0 then
   (some (.inr (some (iV (-1)), w1)))
  else
  bI (C 106 w1 [iV a3]) (fun x4 w3 =>
  if x4 = 0 then
   (some (.inr (some (iV (-1)), w3)))
  else
  if a2 < 0 then
   (some (.inr (some (iV (-1)), w3)))
  else
  if kd w3 r2 = 5 then
  bI (C 37 w3 [rV r2, iV a2, iV a3]) (fun x6 w5 =>
  some (.inr (some (iV x6), w5))) else none)) else none else none := by
  rfl
set_option maxRecDepth 100000 in
theorem eX11_runs_0 (C : sC) (w : sW) (a0 a1 : Int) : sg C mX11_runs 2000 0 [some (rV a0), some (iV a1), none] [] w =
  if kd w a0 = 9 then
  if kd w (gv w a0 3) = 8 then
  bR (C 77 w [rV (gv w a0 3), iV a1]) (fun r2 w1 =>
  if r2 = 0 then
   (some (.inr (some (iV (-1)), w1)))
  else
  if kd w1 r2 = 5 then
  bI (C 38 w1 [rV r2]) (fun x4 w3 =>
  some (.inr (some (iV x4), w3))) else none) else none else none := by
  rfl
set_option maxRecDepth 100000 in
theorem eX11_longest_0 (C : sC) (w : sW) (a0 a1 a2 : Int) : sg C mX11_longest 2000 0 [some (rV a0), some (iV a1), some (iV a2), none] [] w =
  if kd w a0 = 9 then
  if kd w (gv w a0 3) = 8 then
  bR (C 77 w [rV (gv w a0 3), iV a1]) (fun r2 w1 =>
  if r2 = 0 then
   (some (.inr (some (iV (-1)), w1)))
  else
  bI (C 106 w1 [iV a2]) (fun x4 w3 =>
  if x4 = 0 then
   (some (.inr (some (iV (-1)), w3)))
  else
  if kd w3 r2 = 5 then
  bI (C 39 w3 [rV r2, iV a2]) (fun x6 w5 =>
  some (.inr (some (iV x6), w5))) else none)) else none else none := by
  rfl
set_option maxRecDepth 100000 in
theorem eX11_word_0 (C : sC) (w : sW) (a0 a1 a2 : Int) : sg C mX11_word 2000 0 [some (rV a0), some (iV a1), some (iV a2), none] [] w =
  if kd w a0 = 9 then
  if kd w (gv w a0 3) = 8 then
  bR (C 77 w [rV (gv w a0 3), iV a1]) (fun r2 w1 =>
  if r2 = 0 then
   (some (.inr (some (rV (-7)), bp w1 1 6)))
  else
  if kd w1 r2 = 5 then
  bI (C 32 w1 [rV r2, iV a2]) (fun x4 w3 =>
  if x4 = 0 then
   (some (.inr (some (rV (-7)), bp w3 1 6)))
  else
  if kd w3 r2 = 5 then
  bI (C 40 w3 [rV r2, iV a2]) (fun x6 w5 =>
  some (.inr (some (iV x6), w5))) else none) else none) else none else none := by
  rfl
set_option maxRecDepth 100000 in
theorem eX11_leaves_0 (C : sC) (w : sW) (a0 a1 : Int) : sg C mX11_leaves 2000 0 [some (rV a0), some (iV a1), none] [] w =
  if kd w a0 = 9 then
  if kd w (gv w a0 3) = 8 then
  bR (C 77 w [rV (gv w a0 3), iV a1]) (fun r2 w1 =>
  if r2 = 0 then
   (some (.inr (some (iV (-1)), w1)))
  else
  if kd w1 r2 = 5 then
  some (.inr (some (iV (gv w1 r2 3)), w1)) else none) else none else none := by
  rfl
set_option maxRecDepth 100000 in
theorem eX11_leaf_0 (C : sC) (w : sW) (a0 a1 a2 a3 : Int) : sg C mX11_leaf 2000 0 [some (rV a0), some (iV a1), some (iV a2), some (iV a3), none] [] w =
  if kd w a0 = 9 then
  if kd w (gv w a0 3) = 8 then
  bR (C 77 w [rV (gv w a0 3), iV a1]) (fun r2 w1 =>
  if r2 = 0 then
   (some (.inr (some (iV (-1)), w1)))
  else
  if a2 < 0 then
   (some (.inr (some (iV (-1)), w1)))
  else
  if kd w1 r2 = 5 then
  if a2 < (gv w1 r2 3) then
   (if a2 < 152 then
    (if a3 = 0 then
     (if kd w1 r2 = 5 then
     if kd w1 (gv w1 r2 1) = 20 ∧ 0 ≤ a2 ∧ a2 < ln w1 (gv w1 r2 1) then
     some (.inr (some (iV (gv w1 (gv w1 r2 1) a2)), w1)) else none else none)
    else if a3 = 1 then
     (if kd w1 r2 = 5 then
     bI (C 46 w1 [rV r2, iV a2]) (fun x4 w3 =>
     if kd w3 r2 = 5 then
     if kd w3 (gv w3 r2 1) = 20 ∧ 0 ≤ a2 ∧ a2 < ln w3 (gv w3 r2 1) then
     if kd w3 r2 = 5 then
     bI (C 35 w3 [rV r2, iV x4, iV (gv w3 (gv w3 r2 1) a2), iV 1]) (fun x6 w5 =>
     some (.inr (some (iV x6), w5))) else none else none else none) else none)
    else if a3 = 2 then
     (if kd w1 r2 = 5 then
     bI (C 46 w1 [rV r2, iV a2]) (fun x8 w7 =>
     some (.inr (some (iV x8), w7))) else none)
    else some (.inr (some (iV (-1)), w1)))
   else
   some (.inr (some (iV (-1)), w1)))
  else
  some (.inr (some (iV (-1)), w1)) else none) else none else none := by
  rfl
set_option maxRecDepth 100000 in
theorem eX11_tree_0 (C : sC) (w : sW) (a0 a1 a2 : Int) : sg C mX11_tree 2000 0 [some (rV a0), some (iV a1), some (iV a2), none] [] w =
  if kd w a0 = 9 then
  if kd w (gv w a0 3) = 8 then
  bR (C 77 w [rV (gv w a0 3), iV a1]) (fun r2 w1 =>
  if r2 = 0 then
   (some (.inr (some (iV (-1)), w1)))
  else
  if a2 = 0 then
   (if kd w1 r2 = 5 then
   bI (C 89 w1 [iV (gv w1 r2 3)]) (fun x4 w3 =>
   some (.inr (some (iV x4), w3))) else none)
  else if a2 = 1 then
   (if kd w1 r2 = 5 then
   bI (C 90 w1 [iV (gv w1 r2 3)]) (fun x6 w5 =>
   some (.inr (some (iV x6), w5))) else none)
  else if a2 = 2 then
   (if kd w1 r2 = 5 then
   bI (C 91 w1 [iV (gv w1 r2 3)]) (fun x8 w7 =>
   some (.inr (some (iV x8), w7))) else none)
  else if a2 = 3 then
   (bI (C 93 w1 [rV r2]) (fun x10 w9 =>
   some (.inr (some (iV x10), w9))))
  else some (.inr (some (iV (-1)), w1))) else none else none := by
  rfl
set_option maxRecDepth 100000 in
theorem eX11_dense_0 (C : sC) (w : sW) (a0 a1 a2 a3 : Int) : sg C mX11_dense 2000 0 [some (rV a0), some (iV a1), some (iV a2), some (iV a3), none] [] w =
  if kd w a0 = 9 then
  if kd w (gv w a0 3) = 8 then
  bR (C 77 w [rV (gv w a0 3), iV a1]) (fun r2 w1 =>
  if r2 = 0 then
   (some (.inr (some (rV (-7)), bp w1 1 6)))
  else
  if a3 < 1 then
   (some (.inr (some (rV (-7)), bp w1 1 6)))
  else
  if kd w1 r2 = 5 then
  bI (C 33 w1 [rV r2, iV a2, iV a3]) (fun x4 w3 =>
  if x4 = 0 then
   (some (.inr (some (rV (-7)), bp w3 1 6)))
  else
  if kd w3 r2 = 5 then
  bI (C 35 w3 [rV r2, iV a2, iV a3, iV 1]) (fun x6 w5 =>
  bL (C 9 w5 [lV x6, lV a3, iV 24, iV 127]) (fun y8 w7 =>
  some (.inr (some (iV (w32 y8)), w7)))) else none) else none) else none else none := by
  rfl
set_option maxRecDepth 100000 in
theorem eX11_load_0 (C : sC) (w : sW) (a0 a1 : Int) : sg C mX11_load 2000 0 [some (rV a0), some (iV a1), none] [] w =
  if kd w a0 = 9 then
  if kd w (gv w a0 3) = 8 then
  bR (C 77 w [rV (gv w a0 3), iV a1]) (fun r2 w1 =>
  if r2 = 0 then
   (some (.inr (some (rV (-7)), bp w1 1 6)))
  else
  if kd w1 r2 = 5 then
  if (gv w1 r2 2) = 0 then
   (some (.inr (some (rV (-7)), bp w1 1 6)))
  else
  bI (C 93 w1 [rV r2]) (fun x4 w3 =>
  if kd w3 r2 = 5 then
  bL (C 9 w3 [lV (w32 (32 * x4)), lV (gv w3 r2 2), iV 24, iV 127]) (fun y6 w5 =>
  some (.inr (some (iV (w32 y6)), w5))) else none) else none) else none else none := by
  rfl
set_option maxRecDepth 100000 in
theorem eX11_centre_0 (C : sC) (w : sW) (a0 a1 a2 : Int) : sg C mX11_centre 2000 0 [some (rV a0), some (iV a1), some (iV a2), none, none, none, none] [] w =
  if kd w a0 = 9 then
  if kd w (gv w a0 3) = 8 then
  bR (C 77 w [rV (gv w a0 3), iV a1]) (fun r2 w1 =>
  if r2 = 0 then
   (if r2 = 0 then
    (some (.inr (some (rV (-7)), bp w1 1 6)))
   else
   if (0 : Int) = 0 then
    (some (.inr (some (rV (-7)), bp w1 1 6)))
   else
   bI (C 106 w1 [iV a2]) (fun x4 w3 =>
   if x4 = 0 then
    (some (.inr (some (rV (-7)), bp w3 1 6)))
   else
   if kd w3 r2 = 5 then
   bI (C 41 w3 [rV r2]) (fun x6 w5 =>
   bL (C 9 w5 [lV x6, lV 0, iV 53, iV 1023]) (fun y8 w7 =>
   if a2 = 0 then
    (some (.inr (some (iV (w32 (f_lushr y8 32))), w7)))
   else
   some (.inr (some (iV (w32 y8)), w7)))) else none))
  else
  if kd w1 r2 = 5 then
  if kd w1 r2 = 5 then
  bI (C 35 w1 [rV r2, iV 0, iV (gv w1 r2 2), iV 1]) (fun x10 w9 =>
  if r2 = 0 then
   (some (.inr (some (rV (-7)), bp w9 1 6)))
  else
  if x10 = 0 then
   (some (.inr (some (rV (-7)), bp w9 1 6)))
  else
  bI (C 106 w9 [iV a2]) (fun x12 w11 =>
  if x12 = 0 then
   (some (.inr (some (rV (-7)), bp w11 1 6)))
  else
  if kd w11 r2 = 5 then
  bI (C 41 w11 [rV r2]) (fun x14 w13 =>
  bL (C 9 w13 [lV x14, lV x10, iV 53, iV 1023]) (fun y16 w15 =>
  if a2 = 0 then
   (some (.inr (some (iV (w32 (f_lushr y16 32))), w15)))
  else
  some (.inr (some (iV (w32 y16)), w15)))) else none)) else none else none) else none else none := by
  rfl
set_option maxRecDepth 100000 in
theorem eX11_apart_0 (C : sC) (w : sW) (a0 a1 a2 : Int) : sg C mX11_apart 2000 0 [some (rV a0), some (iV a1), some (iV a2), none, none] [] w =
  if kd w a0 = 9 then
  if kd w (gv w a0 3) = 8 then
  bR (C 77 w [rV (gv w a0 3), iV a1]) (fun r2 w1 =>
  if kd w1 a0 = 9 then
  if kd w1 (gv w1 a0 3) = 8 then
  bR (C 77 w1 [rV (gv w1 a0 3), iV a2]) (fun r4 w3 =>
  if r2 = 0 then
   (some (.inr (some (iV (-1)), w3)))
  else
  if r4 = 0 then
   (some (.inr (some (iV (-1)), w3)))
  else
  if kd w3 r2 = 5 then
  bI (C 42 w3 [rV r2, rV r4]) (fun x6 w5 =>
  some (.inr (some (iV x6), w5))) else none) else none else none) else none else none := by
  rfl
set_option maxRecDepth 100000 in
theorem eX11_differ_0 (C : sC) (w : sW) (a0 a1 a2 : Int) : sg C mX11_differ 2000 0 [some (rV a0), some (iV a1), some (iV a2), none, none] [] w =
  if kd w a0 = 9 then
  if kd w (gv w a0 3) = 8 then
  bR (C 77 w [rV (gv w a0 3), iV a1]) (fun r2 w1 =>
  if kd w1 a0 = 9 then
  if kd w1 (gv w1 a0 3) = 8 then
  bR (C 77 w1 [rV (gv w1 a0 3), iV a2]) (fun r4 w3 =>
  if r2 = 0 then
   (some (.inr (some (iV (-1)), w3)))
  else
  if r4 = 0 then
   (some (.inr (some (iV (-1)), w3)))
  else
  if kd w3 r2 = 5 then
  bI (C 43 w3 [rV r2, rV r4]) (fun x6 w5 =>
  some (.inr (some (iV x6), w5))) else none) else none else none) else none else none := by
  rfl
set_option maxRecDepth 100000 in
theorem eX11_seek_0 (C : sC) (w : sW) (a0 a1 : Int) : sg C mX11_seek 2000 0 [some (rV a0), some (iV a1), none, none, none] [] w =
  if kd w a0 = 9 then
  bI (C 121 w [rV a0, iV 32]) (fun x2 w1 =>
  if kd w1 a0 = 9 then
  if kd w1 (gv w1 a0 3) = 8 then
  bR (C 77 w1 [rV (gv w1 a0 3), iV a1]) (fun r4 w3 =>
  if r4 = 0 then
   (some (.inr (some (iV (-1)), w3)))
  else
  if x2 = (-1) then
   (some (.inr (some (iV (-1)), w3)))
  else
  if kd w3 a0 = 9 then
  wl (sv w3 a0 12 0) (fun w5 =>
  some (.inl (35, [some (rV a0), none, some (iV x2), some (rV r4), some (iV 0)], [], w5))) else none) else none else none) else none := by
  rfl
set_option maxRecDepth 100000 in
theorem eX11_seek_35 (C : sC) (w : sW) (a0 a2 a3 a4 : Int) : sg C mX11_seek 2000 35 [some (rV a0), none, some (iV a2), some (rV a3), some (iV a4)] [] w =
  if kd w a3 = 5 then
  if (gv w a3 2) < (w32 (a4 + a2)) then
   (if kd w a0 = 9 then
   some (.inr (some (iV (gv w a0 12)), w)) else none)
  else
  if kd w a0 = 9 then
  if (gv w a0 12) < 600 then
   (if kd w a0 = 9 then
   if kd w a3 = 5 then
   bI (C 45 w [rV a3, iV a4, rV (gv w a0 0), iV a2]) (fun x2 w1 =>
   if x2 = 0 then
    (some (.inl (35, [some (rV a0), none, some (iV a2), some (rV a3), some (iV (w32 (a4 + 1)))], [], w1)))
   else
   if kd w1 a0 = 9 then
   if kd w1 a0 = 9 then
   if (kd w1 (gv w1 a0 11) = 20 ∧ 32 ≤ (gv w1 a0 11)) ∧ 0 ≤ (gv w1 a0 12) ∧ (gv w1 a0 12) < ln w1 (gv w1 a0 11) then
   wl (sv w1 (gv w1 a0 11) (gv w1 a0 12) a4) (fun w3 =>
   if kd w3 a0 = 9 then
   if kd w3 a0 = 9 then
   wl (sv w3 a0 12 (w32 ((gv w3 a0 12) + 1))) (fun w4 =>
   some (.inl (35, [some (rV a0), none, some (iV a2), some (rV a3), some (iV (w32 (a4 + 1)))], [], w4))) else none else none) else none else none else none) else none else none)
  else
  if kd w a0 = 9 then
  some (.inr (some (iV (gv w a0 12)), w)) else none else none else none := by
  rfl
set_option maxRecDepth 100000 in
theorem eX11_takeBitsOfTape_0 (C : sC) (w : sW) (a0 a1 : Int) : sg C mX11_takeBitsOfTape 2000 0 [some (rV a0), some (iV a1), none, none] [] w =
  if kd w a0 = 9 then
  if kd w a0 = 9 then
  wl (sv w a0 1 0) (fun w1 =>
  if (gv w a0 1) < 1 then
   (some (.inr (some (iV (-1)), w1)))
  else
  if a1 < (gv w a0 1) then
   (some (.inr (some (iV (-1)), w1)))
  else
  some (.inl (24, [some (rV a0), none, some (iV (gv w a0 1)), some (iV 0)], [], w1))) else none else none := by
  rfl
set_option maxRecDepth 100000 in
theorem eX11_takeBitsOfTape_24 (C : sC) (w : sW) (a0 a2 a3 : Int) : sg C mX11_takeBitsOfTape 2000 24 [some (rV a0), none, some (iV a2), some (iV a3)] [] w =
  if a3 < a2 then
   (if kd w a0 = 9 then
   if kd w (gv w a0 0) = 20 ∧ 0 ≤ a3 ∧ a3 < ln w (gv w a0 0) then
   bI (C 106 w [iV (gv w (gv w a0 0) a3)]) (fun x2 w1 =>
   if x2 = 0 then
    (some (.inr (some (iV (-1)), w1)))
   else
   some (.inl (24, [some (rV a0), none, some (iV a2), some (iV (w32 (a3 + 1)))], [], w1))) else none else none)
  else
  some (.inr (some (iV a2), w)) := by
  rfl
set_option maxRecDepth 100000 in
theorem eX11_seekAt_0 (C : sC) (w : sW) (a0 a1 : Int) : sg C mX11_seekAt 2000 0 [some (rV a0), some (iV a1)] [] w =
  if a1 < 0 then
   (some (.inr (some (iV (-1)), w)))
  else
  if kd w a0 = 9 then
  if a1 < (gv w a0 12) then
   (if a1 < 600 then
    (if kd w a0 = 9 then
    if kd w (gv w a0 11) = 20 ∧ 0 ≤ a1 ∧ a1 < ln w (gv w a0 11) then
    some (.inr (some (iV (gv w (gv w a0 11) a1)), w)) else none else none)
   else
   some (.inr (some (iV (-1)), w)))
  else
  some (.inr (some (iV (-1)), w)) else none := by
  rfl
set_option maxRecDepth 100000 in
theorem eX11_put_0 (C : sC) (w : sW) (a0 a1 a2 a3 : Int) : sg C mX11_put 2000 0 [some (rV a0), some (iV a1), some (iV a2), some (iV a3)] [] w =
  if kd w a0 = 9 then
  if kd w (gv w a0 3) = 8 then
  bR (C 77 w [rV (gv w a0 3), iV a1]) (fun r2 w1 =>
  if r2 = 0 then
   (some (.inr (some (iV (-1)), w1)))
  else
  bI (C 106 w1 [iV a3]) (fun x4 w3 =>
  if x4 = 0 then
   (some (.inr (some (iV (-1)), w3)))
  else
  if kd w3 a0 = 9 then
  bI (C 124 w3 [rV a0, rV 4, iV a1, iV a2, iV a3]) (fun x6 w5 =>
  some (.inr (some (iV x6), w5))) else none)) else none else none := by
  rfl
set_option maxRecDepth 100000 in
theorem eX11_does_0 (C : sC) (w : sW) (a0 a1 a2 a3 a4 : Int) : sg C mX11_does 2000 0 [some (rV a0), some (rV a1), some (iV a2), some (iV a3), some (iV a4), none] [] w =
  if kd w a0 = 9 then
  if kd w (gv w a0 3) = 8 then
  bI (C 86 w [rV (gv w a0 3), rV a1, iV a2, iV a3, iV a4]) (fun x2 w1 =>
  if x2 = 0 then
   (if kd w1 a0 = 9 then
   if kd w1 a0 = 9 then
   if kd w1 (gv w1 a0 8) = 3 then
   bN (C 12 w1 [rV (gv w1 a0 8), rV (gv w1 a0 3)]) (fun w3 =>
   if kd w3 a0 = 9 then
   if kd w3 (gv w3 a0 3) = 8 then
   bN (C 88 w3 [rV (gv w3 a0 3), rV a1, iV a2, iV a3, iV a4]) (fun w4 =>
   some (.inr (some (iV x2), w4))) else none else none) else none else none else none)
  else
  some (.inr (some (iV x2), w1))) else none else none := by
  rfl
set_option maxRecDepth 100000 in
theorem eX11_set_0 (C : sC) (w : sW) (a0 a1 a2 a3 : Int) : sg C mX11_set 2000 0 [some (rV a0), some (iV a1), some (iV a2), some (iV a3)] [] w =
  if kd w a0 = 9 then
  if kd w (gv w a0 3) = 8 then
  bR (C 77 w [rV (gv w a0 3), iV a1]) (fun r2 w1 =>
  if r2 = 0 then
   (some (.inr (some (iV (-1)), w1)))
  else
  bI (C 106 w1 [iV a3]) (fun x4 w3 =>
  if x4 = 0 then
   (some (.inr (some (iV (-1)), w3)))
  else
  if kd w3 a0 = 9 then
  bI (C 124 w3 [rV a0, rV 5, iV a1, iV a2, iV a3]) (fun x6 w5 =>
  some (.inr (some (iV x6), w5))) else none)) else none else none := by
  rfl
set_option maxRecDepth 100000 in
theorem eX11_cut_0 (C : sC) (w : sW) (a0 a1 a2 a3 : Int) : sg C mX11_cut 2000 0 [some (rV a0), some (iV a1), some (iV a2), some (iV a3)] [] w =
  if kd w a0 = 9 then
  if kd w (gv w a0 3) = 8 then
  bR (C 77 w [rV (gv w a0 3), iV a1]) (fun r2 w1 =>
  if r2 = 0 then
   (some (.inr (some (iV (-1)), w1)))
  else
  if a3 < 1 then
   (some (.inr (some (iV (-1)), w1)))
  else
  if 600 < a3 then
   (some (.inr (some (iV (-1)), w1)))
  else
  if kd w1 a0 = 9 then
  bI (C 124 w1 [rV a0, rV 6, iV a1, iV a2, iV a3]) (fun x4 w3 =>
  some (.inr (some (iV x4), w3))) else none) else none else none := by
  rfl
set_option maxRecDepth 100000 in
theorem eX11_turn_0 (C : sC) (w : sW) (a0 a1 a2 a3 : Int) : sg C mX11_turn 2000 0 [some (rV a0), some (iV a1), some (iV a2), some (iV a3)] [] w =
  if kd w a0 = 9 then
  if kd w (gv w a0 3) = 8 then
  bR (C 77 w [rV (gv w a0 3), iV a1]) (fun r2 w1 =>
  if r2 = 0 then
   (some (.inr (some (iV (-1)), w1)))
  else
  if a3 < 1 then
   (some (.inr (some (iV (-1)), w1)))
  else
  if 600 < a3 then
   (some (.inr (some (iV (-1)), w1)))
  else
  if kd w1 a0 = 9 then
  bI (C 124 w1 [rV a0, rV 7, iV a1, iV a2, iV a3]) (fun x4 w3 =>
  some (.inr (some (iV x4), w3))) else none) else none else none := by
  rfl
set_option maxRecDepth 100000 in
theorem eX11_paste_0 (C : sC) (w : sW) (a0 a1 a2 : Int) : sg C mX11_paste 2000 0 [some (rV a0), some (iV a1), some (iV a2), none, none, none] [] w =
  if kd w a0 = 9 then
  bI (C 121 w [rV a0, iV 64]) (fun x2 w1 =>
  if kd w1 a0 = 9 then
  if kd w1 (gv w1 a0 3) = 8 then
  bR (C 77 w1 [rV (gv w1 a0 3), iV a1]) (fun r4 w3 =>
  if r4 = 0 then
   (some (.inr (some (iV (-1)), w3)))
  else
  if x2 = (-1) then
   (some (.inr (some (iV (-1)), w3)))
  else
  if kd w3 r4 = 5 then
  bI (C 32 w3 [rV r4, iV a2]) (fun x6 w5 =>
  if x6 = 0 then
   (some (.inr (some (iV 1), w5)))
  else
  if kd w5 r4 = 5 then
  if 600 < (w32 ((gv w5 r4 2) + x2)) then
   (some (.inr (some (iV 2), w5)))
  else
  if kd w5 a0 = 9 then
  if kd w5 a0 = 9 then
  if kd w5 (gv w5 a0 8) = 3 then
  bN (C 12 w5 [rV (gv w5 a0 8), rV (gv w5 a0 3)]) (fun w7 =>
  some (.inl (69, [some (rV a0), none, some (iV a2), some (iV x2), some (rV r4), some (iV 0)], [], w7))) else none else none else none else none) else none) else none else none) else none := by
  rfl
set_option maxRecDepth 100000 in
theorem eX11_paste_69 (C : sC) (w : sW) (a0 a2 a3 a4 a5 : Int) : sg C mX11_paste 2000 69 [some (rV a0), none, some (iV a2), some (iV a3), some (rV a4), some (iV a5)] [] w =
  if a5 < a3 then
   (if kd w a0 = 9 then
   if kd w (gv w a0 0) = 20 ∧ 0 ≤ a5 ∧ a5 < ln w (gv w a0 0) then
   if kd w a0 = 9 then
   if kd w (gv w a0 3) = 8 then
   if kd w a4 = 5 then
   bN (C 48 w [rV a4, iV (w32 (a2 + a5)), iV (gv w (gv w a0 0) a5), iV (gv w (gv w a0 3) 4)]) (fun w1 =>
   some (.inl (69, [some (rV a0), none, some (iV a2), some (iV a3), some (rV a4), some (iV (w32 (a5 + 1)))], [], w1))) else none else none else none else none else none)
  else
  some (.inr (some (iV 0), w)) := by
  rfl
set_option maxRecDepth 100000 in
theorem eX11_join_0 (C : sC) (w : sW) (a0 a1 a2 : Int) : sg C mX11_join 2000 0 [some (rV a0), some (iV a1), some (iV a2)] [] w =
  if kd w a0 = 9 then
  if kd w (gv w a0 3) = 8 then
  bR (C 77 w [rV (gv w a0 3), iV a1]) (fun r2 w1 =>
  if r2 = 0 then
   (some (.inr (some (iV (-1)), w1)))
  else
  if kd w1 a0 = 9 then
  if kd w1 (gv w1 a0 3) = 8 then
  bR (C 77 w1 [rV (gv w1 a0 3), iV a2]) (fun r4 w3 =>
  if r4 = 0 then
   (some (.inr (some (iV (-1)), w3)))
  else
  if a1 = a2 then
   (some (.inr (some (iV (-1)), w3)))
  else
  if kd w3 a0 = 9 then
  bI (C 124 w3 [rV a0, rV 8, iV a1, iV a2, iV 0]) (fun x6 w5 =>
  some (.inr (some (iV x6), w5))) else none) else none else none) else none else none := by
  rfl
set_option maxRecDepth 100000 in
theorem eX11_split_0 (C : sC) (w : sW) (a0 a1 a2 a3 : Int) : sg C mX11_split 2000 0 [some (rV a0), some (iV a1), some (iV a2), some (iV a3)] [] w =
  if kd w a0 = 9 then
  if kd w (gv w a0 3) = 8 then
  bR (C 77 w [rV (gv w a0 3), iV a1]) (fun r2 w1 =>
  if r2 = 0 then
   (some (.inr (some (iV (-1)), w1)))
  else
  if kd w1 a0 = 9 then
  if kd w1 (gv w1 a0 3) = 8 then
  bR (C 77 w1 [rV (gv w1 a0 3), iV a3]) (fun r4 w3 =>
  if r4 = 0 then
   (some (.inr (some (iV (-1)), w3)))
  else
  if a1 = a3 then
   (some (.inr (some (iV (-1)), w3)))
  else
  if kd w3 a0 = 9 then
  bI (C 124 w3 [rV a0, rV 9, iV a1, iV a2, iV a3]) (fun x6 w5 =>
  some (.inr (some (iV x6), w5))) else none) else none else none) else none else none := by
  rfl
set_option maxRecDepth 100000 in
theorem eX11_letters_0 (C : sC) (w : sW) (a0 : Int) : sg C mX11_letters 2000 0 [some (rV a0)] [] w =
  if kd w a0 = 9 then
  if kd w (gv w a0 3) = 8 then
  if kd w (gv w (gv w a0 3) 2) = 6 then
  some (.inr (some (iV (gv w (gv w (gv w a0 3) 2) 1)), w)) else none else none else none := by
  rfl
set_option maxRecDepth 100000 in
theorem eX11_letter_0 (C : sC) (w : sW) (a0 a1 : Int) : sg C mX11_letter 2000 0 [some (rV a0), some (iV a1)] [] w =
  if kd w a0 = 9 then
  if kd w (gv w a0 3) = 8 then
  if kd w (gv w (gv w a0 3) 2) = 6 then
  bI (C 56 w [rV (gv w (gv w a0 3) 2), iV a1]) (fun x2 w1 =>
  some (.inr (some (iV x2), w1))) else none else none else none := by
  rfl
set_option maxRecDepth 100000 in
theorem eX11_count_0 (C : sC) (w : sW) (a0 a1 a2 : Int) : sg C mX11_count 2000 0 [some (rV a0), some (iV a1), some (iV a2)] [] w =
  bI (C 134 w [iV a1]) (fun x2 w1 =>
  if x2 = 0 then
   (some (.inr (some (iV (-1)), w1)))
  else
  if a2 < 0 then
   (some (.inr (some (iV (-1)), w1)))
  else
  if kd w1 a0 = 9 then
  if kd w1 (gv w1 a0 3) = 8 then
  if kd w1 (gv w1 (gv w1 a0 3) 2) = 6 then
  if (gv w1 (gv w1 (gv w1 a0 3) 2) 1) < a2 then
   (some (.inr (some (iV (-1)), w1)))
  else
  if kd w1 a0 = 9 then
  if kd w1 (gv w1 a0 3) = 8 then
  if kd w1 (gv w1 (gv w1 a0 3) 2) = 6 then
  bI (C 58 w1 [rV (gv w1 (gv w1 a0 3) 2), iV 0, iV a2, iV a1]) (fun x4 w3 =>
  some (.inr (some (iV x4), w3))) else none else none else none else none else none else none) := by
  rfl
set_option maxRecDepth 100000 in
theorem eX11_isLetter_0 (C : sC) (w : sW) (a0 : Int) : sg C mX11_isLetter 2000 0 [some (iV a0)] [] w =
  if a0 < 0 then
   (some (.inr (some (iV 0), w)))
  else
  if a0 < 8 then
   (some (.inr (some (iV 1), w)))
  else
  some (.inr (some (iV 0), w)) := by
  rfl
set_option maxRecDepth 100000 in
theorem eX11_place_0 (C : sC) (w : sW) (a0 a1 a2 : Int) : sg C mX11_place 2000 0 [some (rV a0), some (iV a1), some (iV a2)] [] w =
  bI (C 134 w [iV a1]) (fun x2 w1 =>
  if x2 = 0 then
   (some (.inr (some (iV (-1)), w1)))
  else
  if a2 < 0 then
   (some (.inr (some (iV (-1)), w1)))
  else
  if kd w1 a0 = 9 then
  if kd w1 (gv w1 a0 3) = 8 then
  if kd w1 (gv w1 (gv w1 a0 3) 2) = 6 then
  bI (C 59 w1 [rV (gv w1 (gv w1 a0 3) 2), iV a1, iV a2]) (fun x4 w3 =>
  some (.inr (some (iV x4), w3))) else none else none else none) := by
  rfl
set_option maxRecDepth 100000 in
theorem eX11_least_0 (C : sC) (w : sW) (a0 a1 a2 a3 : Int) : sg C mX11_least 2000 0 [some (rV a0), some (iV a1), some (iV a2), some (iV a3)] [] w =
  if a1 < 0 then
   (some (.inr (some (iV (-1)), w)))
  else
  if a2 < a1 then
   (some (.inr (some (iV (-1)), w)))
  else
  if kd w a0 = 9 then
  if kd w (gv w a0 3) = 8 then
  if kd w (gv w (gv w a0 3) 2) = 6 then
  if (gv w (gv w (gv w a0 3) 2) 1) < a2 then
   (some (.inr (some (iV (-1)), w)))
  else
  if a3 < 0 then
   (some (.inr (some (iV (-1)), w)))
  else
  if kd w a0 = 9 then
  if kd w (gv w a0 3) = 8 then
  if kd w (gv w (gv w a0 3) 2) = 6 then
  bI (C 60 w [rV (gv w (gv w a0 3) 2), iV a1, iV a2, iV a3]) (fun x2 w1 =>
  some (.inr (some (iV x2), w1))) else none else none else none else none else none else none := by
  rfl
set_option maxRecDepth 100000 in
theorem eX11_node_0 (C : sC) (w : sW) (a0 a1 a2 : Int) : sg C mX11_node 2000 0 [some (rV a0), some (iV a1), some (iV a2)] [] w =
  if a1 < 0 then
   (some (.inr (some (iV (-1)), w)))
  else
  if a1 < 7 then
   (if a2 < 0 then
    (some (.inr (some (iV (-1)), w)))
   else
   if kd w a0 = 9 then
   if kd w (gv w a0 3) = 8 then
   if kd w (gv w (gv w a0 3) 2) = 6 then
   bI (C 61 w [rV (gv w (gv w a0 3) 2), iV a1, iV a2]) (fun x2 w1 =>
   some (.inr (some (iV x2), w1))) else none else none else none)
  else
  some (.inr (some (iV (-1)), w)) := by
  rfl
set_option maxRecDepth 100000 in
theorem eX11_type_0 (C : sC) (w : sW) (a0 a1 a2 : Int) : sg C mX11_type 2000 0 [some (rV a0), some (iV a1), some (iV a2)] [] w =
  bI (C 134 w [iV a2]) (fun x2 w1 =>
  if x2 = 0 then
   (some (.inr (some (iV (-1)), w1)))
  else
  if kd w1 a0 = 9 then
  bI (C 124 w1 [rV a0, rV 10, iV a1, iV a2, iV 0]) (fun x4 w3 =>
  some (.inr (some (iV x4), w3))) else none) := by
  rfl
set_option maxRecDepth 100000 in
theorem eX11_erase_0 (C : sC) (w : sW) (a0 a1 a2 : Int) : sg C mX11_erase 2000 0 [some (rV a0), some (iV a1), some (iV a2)] [] w =
  if a2 < 1 then
   (some (.inr (some (iV (-1)), w)))
  else
  if 200 < a2 then
   (some (.inr (some (iV (-1)), w)))
  else
  if kd w a0 = 9 then
  bI (C 124 w [rV a0, rV 11, iV a1, iV a2, iV 0]) (fun x2 w1 =>
  some (.inr (some (iV x2), w1))) else none := by
  rfl
set_option maxRecDepth 100000 in
theorem eX11_undo_0 (C : sC) (w : sW) (a0 : Int) : sg C mX11_undo 2000 0 [some (rV a0)] [] w =
  if kd w a0 = 9 then
  if kd w a0 = 9 then
  if kd w (gv w a0 8) = 3 then
  bI (C 13 w [rV (gv w a0 8), rV (gv w a0 3)]) (fun x2 w1 =>
  if x2 = 0 then
   (some (.inr (some (iV (-1)), w1)))
  else
  if kd w1 a0 = 9 then
  if kd w1 (gv w1 a0 8) = 3 then
  some (.inr (some (iV (gv w1 (gv w1 a0 8) 2)), w1)) else none else none) else none else none else none := by
  rfl
set_option maxRecDepth 100000 in
theorem eX11_drawn_0 (C : sC) (w : sW) (a0 a1 a2 : Int) : sg C mX11_drawn 2000 0 [some (rV a0), some (iV a1), some (iV a2), none, none, none] [] w =
  if a1 < 1 then
   (some (.inr (some (iV (-1)), w)))
  else
  if 60 < a1 then
   (some (.inr (some (iV (-1)), w)))
  else
  if kd w a0 = 9 then
  if kd w a0 = 9 then
  if kd w (gv w a0 4) = 8 then
  bN (C 76 w [rV (gv w a0 4), rV (gv w a0 3)]) (fun w1 =>
  wl (al w1 2 0 1) (fun w2 =>
  if kd w2 (nx w1) = 2 then
  bN (C 5 w2 [rV (nx w1), iV a2]) (fun w3 =>
  some (.inl (39, [some (rV a0), some (iV a1), none, some (rV (nx w1)), some (iV 0), some (iV 0)], [], w3))) else none)) else none else none else none := by
  rfl
set_option maxRecDepth 100000 in
theorem eX11_drawn_39 (C : sC) (w : sW) (a0 a1 a3 a4 a5 : Int) : sg C mX11_drawn 2000 39 [some (rV a0), some (iV a1), none, some (rV a3), some (iV a4), some (iV a5)] [] w =
  if a5 < a1 then
   (if kd w a0 = 9 then
   if kd w a3 = 2 then
   bI (C 7 w [rV a3, rV (gv w a0 3)]) (fun x2 w1 =>
   if x2 = 0 then
    (some (.inl (39, [some (rV a0), some (iV a1), none, some (rV a3), some (iV (w32 (a4 + 0))), some (iV (w32 (a5 + 1)))], [], w1)))
   else
   some (.inl (39, [some (rV a0), some (iV a1), none, some (rV a3), some (iV (w32 (a4 + 1))), some (iV (w32 (a5 + 1)))], [], w1))) else none else none)
  else
  if 0 < a4 then
   (if kd w a0 = 9 then
   if kd w a0 = 9 then
   if kd w (gv w a0 8) = 3 then
   bN (C 12 w [rV (gv w a0 8), rV (gv w a0 4)]) (fun w3 =>
   some (.inr (some (iV a4), w3))) else none else none else none)
  else
  some (.inr (some (iV a4), w)) := by
  rfl
set_option maxRecDepth 100000 in
theorem eX11_book_0 (C : sC) (w : sW) (a0 a1 : Int) : sg C mX11_book 2000 0 [some (rV a0), some (iV a1), none] [] w =
  if a1 = 0 then
   (some (.inl (13, [some (rV a0), some (iV a1), none], [], w)))
  else
  if a1 = 1 then
   (some (.inl (13, [some (rV a0), some (iV a1), none], [], w)))
  else
  some (.inr (some (iV (-1000)), w)) := by
  rfl
set_option maxRecDepth 100000 in
theorem eX11_book_13 (C : sC) (w : sW) (a0 a1 : Int) : sg C mX11_book 2000 13 [some (rV a0), some (iV a1), none] [] w =
  if kd w a0 = 9 then
  if kd w a0 = 9 then
  if kd w a0 = 9 then
  if kd w (gv w a0 2) = 4 then
  bN (C 15 w [rV (gv w a0 2), rV (gv w a0 0), iV (gv w a0 1), iV 400]) (fun w1 =>
  if kd w1 a0 = 9 then
  if kd w1 a0 = 9 then
  if kd w1 a0 = 9 then
  if kd w1 (gv w1 a0 7) = 1 then
  bN (C 1 w1 [rV (gv w1 a0 7), rV (gv w1 a0 2), rV (gv w1 a0 3)]) (fun w2 =>
  if kd w2 a0 = 9 then
  bI (C 100 w2 [rV a0]) (fun x4 w3 =>
  if x4 = 0 then
   (if kd w3 a0 = 9 then
   if kd w3 a0 = 9 then
   if kd w3 (gv w3 a0 4) = 8 then
   bN (C 76 w3 [rV (gv w3 a0 4), rV (gv w3 a0 3)]) (fun w5 =>
   if kd w5 a0 = 9 then
   if kd w5 a0 = 9 then
   if kd w5 (gv w5 a0 7) = 1 then
   bI (C 4 w5 [rV (gv w5 a0 7), rV (gv w5 a0 3)]) (fun x7 w6 =>
   if kd w6 a0 = 9 then
   if kd w6 a0 = 9 then
   if kd w6 (gv w6 a0 7) = 1 then
   if (kd w6 (gv w6 a0 14) = 20 ∧ 32 ≤ (gv w6 a0 14)) ∧ 0 ≤ (0 : Int) ∧ (0 : Int) < ln w6 (gv w6 a0 14) then
   wl (sv w6 (gv w6 a0 14) 0 (gv w6 (gv w6 a0 7) 5)) (fun w8 =>
   if kd w8 a0 = 9 then
   if (kd w8 (gv w8 a0 14) = 20 ∧ 32 ≤ (gv w8 a0 14)) ∧ 0 ≤ (1 : Int) ∧ (1 : Int) < ln w8 (gv w8 a0 14) then
   wl (sv w8 (gv w8 a0 14) 1 x7) (fun w9 =>
   if kd w9 a0 = 9 then
   if kd w9 a0 = 9 then
   if kd w9 (gv w9 a0 3) = 8 then
   bI (C 79 w9 [rV (gv w9 a0 3)]) (fun x11 w10 =>
   if (kd w10 (gv w9 a0 14) = 20 ∧ 32 ≤ (gv w9 a0 14)) ∧ 0 ≤ (2 : Int) ∧ (2 : Int) < ln w10 (gv w9 a0 14) then
   wl (sv w10 (gv w9 a0 14) 2 x11) (fun w12 =>
   if kd w12 a0 = 9 then
   if kd w12 a0 = 9 then
   if kd w12 (gv w12 a0 3) = 8 then
   if kd w12 (gv w12 (gv w12 a0 3) 2) = 6 then
   if (kd w12 (gv w12 a0 14) = 20 ∧ 32 ≤ (gv w12 a0 14)) ∧ 0 ≤ (3 : Int) ∧ (3 : Int) < ln w12 (gv w12 a0 14) then
   wl (sv w12 (gv w12 a0 14) 3 (gv w12 (gv w12 (gv w12 a0 3) 2) 1)) (fun w13 =>
   if a1 = 0 then
    (if kd w13 a0 = 9 then
    bN (C 101 w13 [rV a0]) (fun w14 =>
    if kd w14 a0 = 9 then
    if kd w14 (gv w14 a0 7) = 1 then
    if (gv w14 (gv w14 a0 7) 5) = 0 then
     (some (.inr (some (iV (-1)), w14)))
    else
    some (.inr (some (iV x7), w14)) else none else none) else none)
   else
   if 0 < x7 then
    (if kd w13 a0 = 9 then
    if kd w13 a0 = 9 then
    if kd w13 (gv w13 a0 8) = 3 then
    bN (C 12 w13 [rV (gv w13 a0 8), rV (gv w13 a0 4)]) (fun w15 =>
    if kd w15 a0 = 9 then
    if kd w15 (gv w15 a0 7) = 1 then
    if (gv w15 (gv w15 a0 7) 5) = 0 then
     (some (.inr (some (iV (-1)), w15)))
    else
    some (.inr (some (iV x7), w15)) else none else none) else none else none else none)
   else
   if kd w13 a0 = 9 then
   if kd w13 (gv w13 a0 7) = 1 then
   if (gv w13 (gv w13 a0 7) 5) = 0 then
    (some (.inr (some (iV (-1)), w13)))
   else
   some (.inr (some (iV x7), w13)) else none else none) else none else none else none else none else none) else none) else none else none else none) else none else none) else none else none else none else none) else none else none else none) else none else none else none)
  else
  if kd w3 a0 = 9 then
  if kd w3 (gv w3 a0 2) = 4 then
  some (.inr (some (iV (w32 ((-2) - (gv w3 (gv w3 a0 2) 11)))), w3)) else none else none) else none) else none else none else none else none) else none else none else none else none := by
  rfl
set_option maxRecDepth 100000 in
theorem eX11_told_0 (C : sC) (w : sW) (a0 a1 : Int) : sg C mX11_told 2000 0 [some (rV a0), some (iV a1)] [] w =
  if a1 < 0 then
   (some (.inr (some (iV (-1)), w)))
  else
  if kd w a0 = 9 then
  if 20 ≤ kd w (gv w a0 14) ∧ kd w (gv w a0 14) ≤ 27 then
  if a1 < (ln w (gv w a0 14)) then
   (if kd w a0 = 9 then
   if kd w (gv w a0 14) = 20 ∧ 0 ≤ a1 ∧ a1 < ln w (gv w a0 14) then
   some (.inr (some (iV (gv w (gv w a0 14) a1)), w)) else none else none)
  else
  some (.inr (some (iV (-1)), w)) else none else none := by
  rfl
set_option maxRecDepth 100000 in
theorem eX11_sentence_0 (C : sC) (w : sW) (a0 : Int) : sg C mX11_sentence 2000 0 [some (rV a0), none] [] w =
  if kd w a0 = 9 then
  if kd w a0 = 9 then
  if kd w a0 = 9 then
  if kd w (gv w a0 2) = 4 then
  bN (C 15 w [rV (gv w a0 2), rV (gv w a0 0), iV (gv w a0 1), iV 200]) (fun w1 =>
  if kd w1 a0 = 9 then
  if kd w1 a0 = 9 then
  if kd w1 a0 = 9 then
  if kd w1 (gv w1 a0 6) = 7 then
  bN (C 67 w1 [rV (gv w1 a0 6), rV (gv w1 a0 2), rV (gv w1 a0 3)]) (fun w2 =>
  if kd w2 a0 = 9 then
  bI (C 100 w2 [rV a0]) (fun x4 w3 =>
  if x4 = 0 then
   (if kd w3 a0 = 9 then
   if kd w3 a0 = 9 then
   if kd w3 a0 = 9 then
   wl (sv w3 a0 5 (gv w3 a0 6)) (fun w5 =>
   if kd w5 a0 = 9 then
   wl (sv w5 a0 6 (gv w3 a0 5)) (fun w6 =>
   if kd w6 a0 = 9 then
   if kd w6 (gv w6 a0 5) = 7 then
   some (.inr (some (iV (gv w6 (gv w6 a0 5) 5)), w6)) else none else none) else none) else none else none else none)
  else
  if kd w3 a0 = 9 then
  if kd w3 (gv w3 a0 2) = 4 then
  some (.inr (some (iV (w32 ((-1) - (gv w3 (gv w3 a0 2) 11)))), w3)) else none else none) else none) else none else none else none else none) else none else none else none else none := by
  rfl
set_option maxRecDepth 100000 in
theorem eX11_said_0 (C : sC) (w : sW) (a0 a1 : Int) : sg C mX11_said 2000 0 [some (rV a0), some (iV a1), none, none] [] w =
  if kd w a0 = 9 then
  if kd w (gv w a0 5) = 7 then
  if (gv w (gv w a0 5) 5) = 0 then
   (some (.inr (some (iV (-1)), w)))
  else
  if a1 < (-1) then
   (some (.inr (some (iV (-1)), w)))
  else
  some (.inl (21, [some (rV a0), some (iV a1), some (iV 0), some (iV 0)], [], w)) else none else none := by
  rfl
set_option maxRecDepth 100000 in
theorem eX11_said_21 (C : sC) (w : sW) (a0 a1 a2 a3 : Int) : sg C mX11_said 2000 21 [some (rV a0), some (iV a1), some (iV a2), some (iV a3)] [] w =
  if kd w a0 = 9 then
  if kd w (gv w a0 3) = 8 then
  if a3 < (gv w (gv w a0 3) 3) then
   (if kd w a0 = 9 then
   if kd w a0 = 9 then
   if kd w (gv w a0 5) = 7 then
   bI (C 72 w [rV (gv w a0 5), rV (gv w a0 3), iV a3]) (fun x2 w1 =>
   if x2 = 0 then
    (some (.inl (21, [some (rV a0), some (iV a1), some (iV a2), some (iV (w32 (a3 + 1)))], [], w1)))
   else
   if a2 = a1 then
    (some (.inr (some (iV a3), w1)))
   else
   some (.inl (21, [some (rV a0), some (iV a1), some (iV (w32 (a2 + 1))), some (iV (w32 (a3 + 1)))], [], w1))) else none else none else none)
  else
  if a1 = (-1) then
   (some (.inr (some (iV a2), w)))
  else
  some (.inr (some (iV (-1)), w)) else none else none := by
  rfl
set_option maxRecDepth 100000 in
theorem eX11_image_0 (C : sC) (w : sW) (a0 a1 : Int) : sg C mX11_image 2000 0 [some (rV a0), some (iV a1)] [] w =
  if a1 < 0 then
   (some (.inr (some (iV 0), w)))
  else
  if a1 < 2 then
   (if kd w a0 = 9 then
   if (24 ≤ kd w (gv w a0 9) ∧ kd w (gv w a0 9) ≤ 27) ∧ 0 ≤ a1 ∧ a1 < ln w (gv w a0 9) then
   if (gv w (gv w a0 9) a1) = 0 then
    (if kd w a0 = 9 then
    wl (al w 8 0 6) (fun w1 =>
    if kd w1 (nx w) = 8 then
    bN (C 75 w1 [rV (nx w)]) (fun w2 =>
    if ((kd w2 (gv w a0 9) = 24 ∧ kd w2 (nx w) = 5) ∨ (kd w2 (gv w a0 9) = 25 ∧ kd w2 (nx w) = 8) ∨ (kd w2 (gv w a0 9) = 26 ∧ kd w2 (nx w) = 7) ∨ (kd w2 (gv w a0 9) = 27 ∧ kd w2 (nx w) = 30 ∧ 32 ≤ (gv w a0 9))) ∧ 0 ≤ a1 ∧ a1 < ln w2 (gv w a0 9) then
    wl (sv w2 (gv w a0 9) a1 (nx w)) (fun w3 =>
    if kd w3 a0 = 9 then
    if (24 ≤ kd w3 (gv w3 a0 10) ∧ kd w3 (gv w3 a0 10) ≤ 27) ∧ 0 ≤ a1 ∧ a1 < ln w3 (gv w3 a0 10) then
    if (gv w3 (gv w3 a0 10) a1) = 0 then
     (if kd w3 a0 = 9 then
     wl (al w3 7 0 6) (fun w4 =>
     if kd w4 (nx w3) = 7 then
     bN (C 64 w4 [rV (nx w3)]) (fun w5 =>
     if ((kd w5 (gv w3 a0 10) = 24 ∧ kd w5 (nx w3) = 5) ∨ (kd w5 (gv w3 a0 10) = 25 ∧ kd w5 (nx w3) = 8) ∨ (kd w5 (gv w3 a0 10) = 26 ∧ kd w5 (nx w3) = 7) ∨ (kd w5 (gv w3 a0 10) = 27 ∧ kd w5 (nx w3) = 30 ∧ 32 ≤ (gv w3 a0 10))) ∧ 0 ≤ a1 ∧ a1 < ln w5 (gv w3 a0 10) then
     wl (sv w5 (gv w3 a0 10) a1 (nx w3)) (fun w6 =>
     some (.inl (55, [some (rV a0), some (iV a1)], [], w6))) else none) else none) else none)
    else
    some (.inl (55, [some (rV a0), some (iV a1)], [], w3)) else none else none) else none) else none) else none)
   else
   if kd w a0 = 9 then
   if (24 ≤ kd w (gv w a0 10) ∧ kd w (gv w a0 10) ≤ 27) ∧ 0 ≤ a1 ∧ a1 < ln w (gv w a0 10) then
   if (gv w (gv w a0 10) a1) = 0 then
    (if kd w a0 = 9 then
    wl (al w 7 0 6) (fun w7 =>
    if kd w7 (nx w) = 7 then
    bN (C 64 w7 [rV (nx w)]) (fun w8 =>
    if ((kd w8 (gv w a0 10) = 24 ∧ kd w8 (nx w) = 5) ∨ (kd w8 (gv w a0 10) = 25 ∧ kd w8 (nx w) = 8) ∨ (kd w8 (gv w a0 10) = 26 ∧ kd w8 (nx w) = 7) ∨ (kd w8 (gv w a0 10) = 27 ∧ kd w8 (nx w) = 30 ∧ 32 ≤ (gv w a0 10))) ∧ 0 ≤ a1 ∧ a1 < ln w8 (gv w a0 10) then
    wl (sv w8 (gv w a0 10) a1 (nx w)) (fun w9 =>
    some (.inl (55, [some (rV a0), some (iV a1)], [], w9))) else none) else none) else none)
   else
   some (.inl (55, [some (rV a0), some (iV a1)], [], w)) else none else none else none else none)
  else
  some (.inr (some (iV 0), w)) := by
  rfl
set_option maxRecDepth 100000 in
theorem eX11_image_55 (C : sC) (w : sW) (a0 a1 : Int) : sg C mX11_image 2000 55 [some (rV a0), some (iV a1)] [] w =
  if kd w a0 = 9 then
  if (24 ≤ kd w (gv w a0 9) ∧ kd w (gv w a0 9) ≤ 27) ∧ 0 ≤ a1 ∧ a1 < ln w (gv w a0 9) then
  if kd w a0 = 9 then
  if kd w (gv w (gv w a0 9) a1) = 8 then
  bN (C 76 w [rV (gv w (gv w a0 9) a1), rV (gv w a0 3)]) (fun w1 =>
  if kd w1 a0 = 9 then
  if (24 ≤ kd w1 (gv w1 a0 10) ∧ kd w1 (gv w1 a0 10) ≤ 27) ∧ 0 ≤ a1 ∧ a1 < ln w1 (gv w1 a0 10) then
  if kd w1 a0 = 9 then
  if kd w1 (gv w1 (gv w1 a0 10) a1) = 7 then
  bN (C 66 w1 [rV (gv w1 (gv w1 a0 10) a1), rV (gv w1 a0 5)]) (fun w2 =>
  some (.inr (some (iV 1), w2))) else none else none else none else none) else none else none else none else none := by
  rfl
set_option maxRecDepth 100000 in
theorem eX11_restore_0 (C : sC) (w : sW) (a0 a1 : Int) : sg C mX11_restore 2000 0 [some (rV a0), some (iV a1)] [] w =
  if a1 < 0 then
   (some (.inr (some (iV 0), w)))
  else
  if a1 < 2 then
   (if kd w a0 = 9 then
   if (24 ≤ kd w (gv w a0 9) ∧ kd w (gv w a0 9) ≤ 27) ∧ 0 ≤ a1 ∧ a1 < ln w (gv w a0 9) then
   if (gv w (gv w a0 9) a1) = 0 then
    (some (.inr (some (iV 0), w)))
   else
   if kd w a0 = 9 then
   if (24 ≤ kd w (gv w a0 10) ∧ kd w (gv w a0 10) ≤ 27) ∧ 0 ≤ a1 ∧ a1 < ln w (gv w a0 10) then
   if (gv w (gv w a0 10) a1) = 0 then
    (some (.inr (some (iV 0), w)))
   else
   if kd w a0 = 9 then
   if kd w a0 = 9 then
   if (24 ≤ kd w (gv w a0 9) ∧ kd w (gv w a0 9) ≤ 27) ∧ 0 ≤ a1 ∧ a1 < ln w (gv w a0 9) then
   if kd w (gv w a0 3) = 8 then
   bN (C 76 w [rV (gv w a0 3), rV (gv w (gv w a0 9) a1)]) (fun w1 =>
   if kd w1 a0 = 9 then
   if kd w1 a0 = 9 then
   if (24 ≤ kd w1 (gv w1 a0 10) ∧ kd w1 (gv w1 a0 10) ≤ 27) ∧ 0 ≤ a1 ∧ a1 < ln w1 (gv w1 a0 10) then
   if kd w1 (gv w1 a0 5) = 7 then
   bN (C 66 w1 [rV (gv w1 a0 5), rV (gv w1 (gv w1 a0 10) a1)]) (fun w2 =>
   if kd w2 a0 = 9 then
   if kd w2 (gv w2 a0 8) = 3 then
   bN (C 11 w2 [rV (gv w2 a0 8)]) (fun w3 =>
   some (.inr (some (iV 1), w3))) else none else none) else none else none else none else none) else none else none else none else none else none else none else none else none)
  else
  some (.inr (some (iV 0), w)) := by
  rfl
set_option maxRecDepth 100000 in
theorem eX11_total_0 (C : sC) (w : sW) (a0 a1 : Int) : sg C mX11_total 2000 0 [some (rV a0), some (iV a1)] [] w =
  if a1 = 0 then
   (if kd w a0 = 9 then
   if kd w (gv w a0 3) = 8 then
   some (.inr (some (iV (gv w (gv w a0 3) 3)), w)) else none else none)
  else if a1 = 1 then
   (if kd w a0 = 9 then
   if kd w (gv w a0 3) = 8 then
   some (.inr (some (iV (gv w (gv w a0 3) 4)), w)) else none else none)
  else if a1 = 2 then
   (if kd w a0 = 9 then
   if kd w (gv w a0 3) = 8 then
   bI (C 79 w [rV (gv w a0 3)]) (fun x2 w1 =>
   some (.inr (some (iV x2), w1))) else none else none)
  else if a1 = 3 then
   (if kd w a0 = 9 then
   some (.inr (some (iV (gv w a0 1)), w)) else none)
  else some (.inr (some (iV (-1)), w)) := by
  rfl
