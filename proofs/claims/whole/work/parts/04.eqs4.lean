set_option maxRecDepth 100000 in
theorem eL_law_0 (C : sC) (w : sW) (a0 : Int) : sg C mL_law 2000 0 [some (rV a0), none, none, none, none, none, none] [] w =
  wl (al w 9 0 15) (fun w1 =>
  if kd w1 (nx w) = 9 then
  bN (C 95 w1 [rV (nx w)]) (fun w2 =>
  wl (al w2 10 0 39) (fun w3 =>
  if kd w3 (nx w2) = 10 then
  bN (C 169 w3 [rV (nx w2)]) (fun w4 =>
  if 0 ≤ (1 : Int) ∧ (1 : Int) ≤ 100000 then
  wl (al w4 22 1 (Int.toNat 1)) (fun w5 =>
  some (.inl (23, [some (rV a0), some (rV (nx w)), some (rV (nx w2)), some (rV (nx w4)), some (iV 0), none, none], [], w5))) else none) else none)) else none) := by
  rfl
set_option maxRecDepth 100000 in
theorem eL_law_23 (C : sC) (w : sW) (a0 a1 a2 a3 a4 : Int) : sg C mL_law 2000 23 [some (rV a0), some (rV a1), some (rV a2), some (rV a3), some (iV a4), none, none] [] w =
  if 20 ≤ kd w a0 ∧ kd w a0 ≤ 27 then
  if (w32 ((ln w a0) - 6)) < a4 then
   (some (.inr (some (iV 1), w)))
  else
  if kd w a0 = 20 ∧ 0 ≤ a4 ∧ a4 < ln w a0 then
  if (f_iand (gv w a0 a4) 63) = 0 then
   (if kd w a0 = 20 ∧ 0 ≤ (w32 (a4 + 1)) ∧ (w32 (a4 + 1)) < ln w a0 then
   if kd w a0 = 20 ∧ 0 ≤ (w32 (a4 + 2)) ∧ (w32 (a4 + 2)) < ln w a0 then
   if kd w a0 = 20 ∧ 0 ≤ (w32 (a4 + 3)) ∧ (w32 (a4 + 3)) < ln w a0 then
   if kd w a0 = 20 ∧ 0 ≤ (w32 (a4 + 4)) ∧ (w32 (a4 + 4)) < ln w a0 then
   if kd w a0 = 20 ∧ 0 ≤ (w32 (a4 + 5)) ∧ (w32 (a4 + 5)) < ln w a0 then
   if kd w a1 = 9 then
   bI (C 96 w [rV a1, iV (gv w a0 (w32 (a4 + 1))), iV (gv w a0 (w32 (a4 + 2))), iV (gv w a0 (w32 (a4 + 3))), iV (gv w a0 (w32 (a4 + 4))), iV (gv w a0 (w32 (a4 + 5)))]) (fun x2 w1 =>
   if kd w1 a0 = 20 ∧ 0 ≤ (w32 (a4 + 1)) ∧ (w32 (a4 + 1)) < ln w1 a0 then
   if kd w1 a0 = 20 ∧ 0 ≤ (w32 (a4 + 2)) ∧ (w32 (a4 + 2)) < ln w1 a0 then
   if kd w1 a0 = 20 ∧ 0 ≤ (w32 (a4 + 3)) ∧ (w32 (a4 + 3)) < ln w1 a0 then
   if kd w1 a0 = 20 ∧ 0 ≤ (w32 (a4 + 4)) ∧ (w32 (a4 + 4)) < ln w1 a0 then
   if kd w1 a0 = 20 ∧ 0 ≤ (w32 (a4 + 5)) ∧ (w32 (a4 + 5)) < ln w1 a0 then
   if kd w1 a2 = 10 then
   bI (C 152 w1 [rV a2, iV (gv w1 a0 (w32 (a4 + 1))), iV (gv w1 a0 (w32 (a4 + 2))), iV (gv w1 a0 (w32 (a4 + 3))), iV (gv w1 a0 (w32 (a4 + 4))), iV (gv w1 a0 (w32 (a4 + 5)))]) (fun x4 w3 =>
   if x2 = x4 then
    (some (.inl (23, [some (rV a0), some (rV a1), some (rV a2), some (rV a3), some (iV (w32 (a4 + 6))), none, none], [], w3)))
   else
   some (.inr (some (iV 0), w3))) else none else none else none else none else none else none) else none else none else none else none else none else none)
  else if (f_iand (gv w a0 a4) 63) = 1 then
   (if kd w a0 = 20 ∧ 0 ≤ (w32 (a4 + 1)) ∧ (w32 (a4 + 1)) < ln w a0 then
   if kd w a1 = 9 then
   bI (C 98 w [rV a1, iV (gv w a0 (w32 (a4 + 1)))]) (fun x6 w5 =>
   if kd w5 a0 = 20 ∧ 0 ≤ (w32 (a4 + 1)) ∧ (w32 (a4 + 1)) < ln w5 a0 then
   if kd w5 a2 = 10 then
   bI (C 153 w5 [rV a2, iV (gv w5 a0 (w32 (a4 + 1)))]) (fun x8 w7 =>
   if x6 = x8 then
    (some (.inl (23, [some (rV a0), some (rV a1), some (rV a2), some (rV a3), some (iV (w32 (a4 + 6))), none, none], [], w7)))
   else
   some (.inr (some (iV 0), w7))) else none else none) else none else none)
  else if (f_iand (gv w a0 a4) 63) = 2 then
   (if kd w a1 = 9 then
   bI (C 99 w [rV a1]) (fun x10 w9 =>
   if kd w9 a2 = 10 then
   bI (C 178 w9 [rV a2]) (fun x12 w11 =>
   if x10 = x12 then
    (some (.inl (23, [some (rV a0), some (rV a1), some (rV a2), some (rV a3), some (iV (w32 (a4 + 6))), none, none], [], w11)))
   else
   some (.inr (some (iV 0), w11))) else none) else none)
  else if (f_iand (gv w a0 a4) 63) = 3 then
   (if kd w a1 = 9 then
   bI (C 102 w [rV a1]) (fun x14 w13 =>
   if kd w13 a2 = 10 then
   bI (C 179 w13 [rV a2]) (fun x16 w15 =>
   if x14 = x16 then
    (some (.inl (23, [some (rV a0), some (rV a1), some (rV a2), some (rV a3), some (iV (w32 (a4 + 6))), none, none], [], w15)))
   else
   some (.inr (some (iV 0), w15))) else none) else none)
  else if (f_iand (gv w a0 a4) 63) = 4 then
   (if kd w a0 = 20 ∧ 0 ≤ (w32 (a4 + 1)) ∧ (w32 (a4 + 1)) < ln w a0 then
   if kd w a1 = 9 then
   bI (C 103 w [rV a1, iV (gv w a0 (w32 (a4 + 1)))]) (fun x18 w17 =>
   if kd w17 a0 = 20 ∧ 0 ≤ (w32 (a4 + 1)) ∧ (w32 (a4 + 1)) < ln w17 a0 then
   if kd w17 a2 = 10 then
   bI (C 192 w17 [rV a2, iV (gv w17 a0 (w32 (a4 + 1)))]) (fun x20 w19 =>
   if x18 = x20 then
    (some (.inl (23, [some (rV a0), some (rV a1), some (rV a2), some (rV a3), some (iV (w32 (a4 + 6))), none, none], [], w19)))
   else
   some (.inr (some (iV 0), w19))) else none else none) else none else none)
  else if (f_iand (gv w a0 a4) 63) = 5 then
   (if kd w a0 = 20 ∧ 0 ≤ (w32 (a4 + 1)) ∧ (w32 (a4 + 1)) < ln w a0 then
   if kd w a0 = 20 ∧ 0 ≤ (w32 (a4 + 2)) ∧ (w32 (a4 + 2)) < ln w a0 then
   if kd w a1 = 9 then
   bI (C 104 w [rV a1, iV (gv w a0 (w32 (a4 + 1))), iV (gv w a0 (w32 (a4 + 2)))]) (fun x22 w21 =>
   if kd w21 a0 = 20 ∧ 0 ≤ (w32 (a4 + 1)) ∧ (w32 (a4 + 1)) < ln w21 a0 then
   if kd w21 a0 = 20 ∧ 0 ≤ (w32 (a4 + 2)) ∧ (w32 (a4 + 2)) < ln w21 a0 then
   if kd w21 a2 = 10 then
   bI (C 193 w21 [rV a2, iV (gv w21 a0 (w32 (a4 + 1))), iV (gv w21 a0 (w32 (a4 + 2)))]) (fun x24 w23 =>
   if x22 = x24 then
    (some (.inl (23, [some (rV a0), some (rV a1), some (rV a2), some (rV a3), some (iV (w32 (a4 + 6))), none, none], [], w23)))
   else
   some (.inr (some (iV 0), w23))) else none else none else none) else none else none else none)
  else if (f_iand (gv w a0 a4) 63) = 6 then
   (if kd w a0 = 20 ∧ 0 ≤ (w32 (a4 + 1)) ∧ (w32 (a4 + 1)) < ln w a0 then
   if kd w a0 = 20 ∧ 0 ≤ (w32 (a4 + 2)) ∧ (w32 (a4 + 2)) < ln w a0 then
   if kd w a0 = 20 ∧ 0 ≤ (w32 (a4 + 3)) ∧ (w32 (a4 + 3)) < ln w a0 then
   if kd w a1 = 9 then
   bI (C 105 w [rV a1, iV (gv w a0 (w32 (a4 + 1))), iV (gv w a0 (w32 (a4 + 2))), iV (gv w a0 (w32 (a4 + 3)))]) (fun x26 w25 =>
   if kd w25 a0 = 20 ∧ 0 ≤ (w32 (a4 + 1)) ∧ (w32 (a4 + 1)) < ln w25 a0 then
   if kd w25 a0 = 20 ∧ 0 ≤ (w32 (a4 + 2)) ∧ (w32 (a4 + 2)) < ln w25 a0 then
   if kd w25 a0 = 20 ∧ 0 ≤ (w32 (a4 + 3)) ∧ (w32 (a4 + 3)) < ln w25 a0 then
   if kd w25 a2 = 10 then
   bI (C 194 w25 [rV a2, iV (gv w25 a0 (w32 (a4 + 1))), iV (gv w25 a0 (w32 (a4 + 2))), iV (gv w25 a0 (w32 (a4 + 3)))]) (fun x28 w27 =>
   if x26 = x28 then
    (some (.inl (23, [some (rV a0), some (rV a1), some (rV a2), some (rV a3), some (iV (w32 (a4 + 6))), none, none], [], w27)))
   else
   some (.inr (some (iV 0), w27))) else none else none else none else none) else none else none else none else none)
  else if (f_iand (gv w a0 a4) 63) = 7 then
   (if kd w a0 = 20 ∧ 0 ≤ (w32 (a4 + 1)) ∧ (w32 (a4 + 1)) < ln w a0 then
   if kd w a0 = 20 ∧ 0 ≤ (w32 (a4 + 2)) ∧ (w32 (a4 + 2)) < ln w a0 then
   if kd w a0 = 20 ∧ 0 ≤ (w32 (a4 + 3)) ∧ (w32 (a4 + 3)) < ln w a0 then
   if kd w a1 = 9 then
   bI (C 107 w [rV a1, iV (gv w a0 (w32 (a4 + 1))), iV (gv w a0 (w32 (a4 + 2))), iV (gv w a0 (w32 (a4 + 3)))]) (fun x30 w29 =>
   if kd w29 a0 = 20 ∧ 0 ≤ (w32 (a4 + 1)) ∧ (w32 (a4 + 1)) < ln w29 a0 then
   if kd w29 a0 = 20 ∧ 0 ≤ (w32 (a4 + 2)) ∧ (w32 (a4 + 2)) < ln w29 a0 then
   if kd w29 a0 = 20 ∧ 0 ≤ (w32 (a4 + 3)) ∧ (w32 (a4 + 3)) < ln w29 a0 then
   if kd w29 a2 = 10 then
   bI (C 195 w29 [rV a2, iV (gv w29 a0 (w32 (a4 + 1))), iV (gv w29 a0 (w32 (a4 + 2))), iV (gv w29 a0 (w32 (a4 + 3)))]) (fun x32 w31 =>
   if x30 = x32 then
    (some (.inl (23, [some (rV a0), some (rV a1), some (rV a2), some (rV a3), some (iV (w32 (a4 + 6))), none, none], [], w31)))
   else
   some (.inr (some (iV 0), w31))) else none else none else none else none) else none else none else none else none)
  else if (f_iand (gv w a0 a4) 63) = 8 then
   (if kd w a0 = 20 ∧ 0 ≤ (w32 (a4 + 1)) ∧ (w32 (a4 + 1)) < ln w a0 then
   if kd w a0 = 20 ∧ 0 ≤ (w32 (a4 + 2)) ∧ (w32 (a4 + 2)) < ln w a0 then
   if kd w a0 = 20 ∧ 0 ≤ (w32 (a4 + 3)) ∧ (w32 (a4 + 3)) < ln w a0 then
   if kd w a1 = 9 then
   bI (C 108 w [rV a1, iV (gv w a0 (w32 (a4 + 1))), iV (gv w a0 (w32 (a4 + 2))), iV (gv w a0 (w32 (a4 + 3)))]) (fun x34 w33 =>
   if kd w33 a0 = 20 ∧ 0 ≤ (w32 (a4 + 1)) ∧ (w32 (a4 + 1)) < ln w33 a0 then
   if kd w33 a0 = 20 ∧ 0 ≤ (w32 (a4 + 2)) ∧ (w32 (a4 + 2)) < ln w33 a0 then
   if kd w33 a0 = 20 ∧ 0 ≤ (w32 (a4 + 3)) ∧ (w32 (a4 + 3)) < ln w33 a0 then
   if kd w33 a2 = 10 then
   bI (C 196 w33 [rV a2, iV (gv w33 a0 (w32 (a4 + 1))), iV (gv w33 a0 (w32 (a4 + 2))), iV (gv w33 a0 (w32 (a4 + 3)))]) (fun x36 w35 =>
   if x34 = x36 then
    (some (.inl (23, [some (rV a0), some (rV a1), some (rV a2), some (rV a3), some (iV (w32 (a4 + 6))), none, none], [], w35)))
   else
   some (.inr (some (iV 0), w35))) else none else none else none else none) else none else none else none else none)
  else if (f_iand (gv w a0 a4) 63) = 9 then
   (if kd w a0 = 20 ∧ 0 ≤ (w32 (a4 + 1)) ∧ (w32 (a4 + 1)) < ln w a0 then
   if kd w a1 = 9 then
   bI (C 109 w [rV a1, iV (gv w a0 (w32 (a4 + 1)))]) (fun x38 w37 =>
   if kd w37 a0 = 20 ∧ 0 ≤ (w32 (a4 + 1)) ∧ (w32 (a4 + 1)) < ln w37 a0 then
   if kd w37 a2 = 10 then
   bI (C 198 w37 [rV a2, iV (gv w37 a0 (w32 (a4 + 1)))]) (fun x40 w39 =>
   if x38 = x40 then
    (some (.inl (23, [some (rV a0), some (rV a1), some (rV a2), some (rV a3), some (iV (w32 (a4 + 6))), none, none], [], w39)))
   else
   some (.inr (some (iV 0), w39))) else none else none) else none else none)
  else if (f_iand (gv w a0 a4) 63) = 10 then
   (if kd w a0 = 20 ∧ 0 ≤ (w32 (a4 + 1)) ∧ (w32 (a4 + 1)) < ln w a0 then
   if kd w a0 = 20 ∧ 0 ≤ (w32 (a4 + 2)) ∧ (w32 (a4 + 2)) < ln w a0 then
   if kd w a1 = 9 then
   bI (C 110 w [rV a1, iV (gv w a0 (w32 (a4 + 1))), iV (gv w a0 (w32 (a4 + 2)))]) (fun x42 w41 =>
   if kd w41 a0 = 20 ∧ 0 ≤ (w32 (a4 + 1)) ∧ (w32 (a4 + 1)) < ln w41 a0 then
   if kd w41 a0 = 20 ∧ 0 ≤ (w32 (a4 + 2)) ∧ (w32 (a4 + 2)) < ln w41 a0 then
   if kd w41 a2 = 10 then
   bI (C 199 w41 [rV a2, iV (gv w41 a0 (w32 (a4 + 1))), iV (gv w41 a0 (w32 (a4 + 2)))]) (fun x44 w43 =>
   if x42 = x44 then
    (some (.inl (23, [some (rV a0), some (rV a1), some (rV a2), some (rV a3), some (iV (w32 (a4 + 6))), none, none], [], w43)))
   else
   some (.inr (some (iV 0), w43))) else none else none else none) else none else none else none)
  else if (f_iand (gv w a0 a4) 63) = 11 then
   (if kd w a0 = 20 ∧ 0 ≤ (w32 (a4 + 1)) ∧ (w32 (a4 + 1)) < ln w a0 then
   if kd w a0 = 20 ∧ 0 ≤ (w32 (a4 + 2)) ∧ (w32 (a4 + 2)) < ln w a0 then
   bI (C 279 w [rV a1, iV (gv w a0 (w32 (a4 + 1))), iV (gv w a0 (w32 (a4 + 2))), rV a3]) (fun x46 w45 =>
   if kd w45 a0 = 20 ∧ 0 ≤ (w32 (a4 + 1)) ∧ (w32 (a4 + 1)) < ln w45 a0 then
   if kd w45 a0 = 20 ∧ 0 ≤ (w32 (a4 + 2)) ∧ (w32 (a4 + 2)) < ln w45 a0 then
   if kd w45 a2 = 10 then
   bI (C 200 w45 [rV a2, iV (gv w45 a0 (w32 (a4 + 1))), iV (gv w45 a0 (w32 (a4 + 2)))]) (fun x48 w47 =>
   if kd w47 a2 = 10 then
   bI (C 149 w47 [rV a2]) (fun x50 w49 =>
   if x50 = x46 then
    (if x46 = 0 then
     (if kd w49 a3 = 22 ∧ 0 ≤ (0 : Int) ∧ (0 : Int) < ln w49 a3 then
     if (cmpL (gv w49 a3 0) x48) = 0 then
      (some (.inl (23, [some (rV a0), some (rV a1), some (rV a2), some (rV a3), some (iV (w32 (a4 + 6))), none, none], [], w49)))
     else
     some (.inr (some (iV 0), w49)) else none)
    else
    some (.inl (23, [some (rV a0), some (rV a1), some (rV a2), some (rV a3), some (iV (w32 (a4 + 6))), none, none], [], w49)))
   else
   some (.inr (some (iV 0), w49))) else none) else none else none else none) else none else none)
  else if (f_iand (gv w a0 a4) 63) = 12 then
   (if kd w a0 = 20 ∧ 0 ≤ (w32 (a4 + 1)) ∧ (w32 (a4 + 1)) < ln w a0 then
   if kd w a1 = 9 then
   bI (C 112 w [rV a1, iV (gv w a0 (w32 (a4 + 1)))]) (fun x52 w51 =>
   if kd w51 a0 = 20 ∧ 0 ≤ (w32 (a4 + 1)) ∧ (w32 (a4 + 1)) < ln w51 a0 then
   if kd w51 a2 = 10 then
   bI (C 201 w51 [rV a2, iV (gv w51 a0 (w32 (a4 + 1)))]) (fun x54 w53 =>
   if x52 = x54 then
    (some (.inl (23, [some (rV a0), some (rV a1), some (rV a2), some (rV a3), some (iV (w32 (a4 + 6))), none, none], [], w53)))
   else
   some (.inr (some (iV 0), w53))) else none else none) else none else none)
  else if (f_iand (gv w a0 a4) 63) = 13 then
   (if kd w a0 = 20 ∧ 0 ≤ (w32 (a4 + 1)) ∧ (w32 (a4 + 1)) < ln w a0 then
   if kd w a0 = 20 ∧ 0 ≤ (w32 (a4 + 2)) ∧ (w32 (a4 + 2)) < ln w a0 then
   if kd w a0 = 20 ∧ 0 ≤ (w32 (a4 + 3)) ∧ (w32 (a4 + 3)) < ln w a0 then
   if kd w a1 = 9 then
   bI (C 113 w [rV a1, iV (gv w a0 (w32 (a4 + 1))), iV (gv w a0 (w32 (a4 + 2))), iV (gv w a0 (w32 (a4 + 3)))]) (fun x56 w55 =>
   if kd w55 a0 = 20 ∧ 0 ≤ (w32 (a4 + 1)) ∧ (w32 (a4 + 1)) < ln w55 a0 then
   if kd w55 a0 = 20 ∧ 0 ≤ (w32 (a4 + 2)) ∧ (w32 (a4 + 2)) < ln w55 a0 then
   if kd w55 a0 = 20 ∧ 0 ≤ (w32 (a4 + 3)) ∧ (w32 (a4 + 3)) < ln w55 a0 then
   if kd w55 a2 = 10 then
   bI (C 202 w55 [rV a2, iV (gv w55 a0 (w32 (a4 + 1))), iV (gv w55 a0 (w32 (a4 + 2))), iV (gv w55 a0 (w32 (a4 + 3)))]) (fun x58 w57 =>
   if x56 = x58 then
    (some (.inl (23, [some (rV a0), some (rV a1), some (rV a2), some (rV a3), some (iV (w32 (a4 + 6))), none, none], [], w57)))
   else
   some (.inr (some (iV 0), w57))) else none else none else none else none) else none else none else none else none)
  else if (f_iand (gv w a0 a4) 63) = 14 then
   (if kd w a0 = 20 ∧ 0 ≤ (w32 (a4 + 1)) ∧ (w32 (a4 + 1)) < ln w a0 then
   if kd w a0 = 20 ∧ 0 ≤ (w32 (a4 + 2)) ∧ (w32 (a4 + 2)) < ln w a0 then
   if kd w a1 = 9 then
   bI (C 114 w [rV a1, iV (gv w a0 (w32 (a4 + 1))), iV (gv w a0 (w32 (a4 + 2)))]) (fun x60 w59 =>
   if kd w59 a0 = 20 ∧ 0 ≤ (w32 (a4 + 1)) ∧ (w32 (a4 + 1)) < ln w59 a0 then
   if kd w59 a0 = 20 ∧ 0 ≤ (w32 (a4 + 2)) ∧ (w32 (a4 + 2)) < ln w59 a0 then
   if kd w59 a2 = 10 then
   bI (C 207 w59 [rV a2, iV (gv w59 a0 (w32 (a4 + 1))), iV (gv w59 a0 (w32 (a4 + 2)))]) (fun x62 w61 =>
   if x60 = x62 then
    (some (.inl (23, [some (rV a0), some (rV a1), some (rV a2), some (rV a3), some (iV (w32 (a4 + 6))), none, none], [], w61)))
   else
   some (.inr (some (iV 0), w61))) else none else none else none) else none else none else none)
  else if (f_iand (gv w a0 a4) 63) = 15 then
   (if kd w a0 = 20 ∧ 0 ≤ (w32 (a4 + 1)) ∧ (w32 (a4 + 1)) < ln w a0 then
   if kd w a0 = 20 ∧ 0 ≤ (w32 (a4 + 2)) ∧ (w32 (a4 + 2)) < ln w a0 then
   if kd w a0 = 20 ∧ 0 ≤ (w32 (a4 + 3)) ∧ (w32 (a4 + 3)) < ln w a0 then
   bI (C 280 w [rV a1, iV (gv w a0 (w32 (a4 + 1))), iV (gv w a0 (w32 (a4 + 2))), iV (gv w a0 (w32 (a4 + 3))), rV a3]) (fun x64 w63 =>
   if kd w63 a0 = 20 ∧ 0 ≤ (w32 (a4 + 1)) ∧ (w32 (a4 + 1)) < ln w63 a0 then
   if kd w63 a0 = 20 ∧ 0 ≤ (w32 (a4 + 2)) ∧ (w32 (a4 + 2)) < ln w63 a0 then
   if kd w63 a0 = 20 ∧ 0 ≤ (w32 (a4 + 3)) ∧ (w32 (a4 + 3)) < ln w63 a0 then
   if kd w63 a2 = 10 then
   bI (C 211 w63 [rV a2, iV (gv w63 a0 (w32 (a4 + 1))), iV (gv w63 a0 (w32 (a4 + 2))), iV (gv w63 a0 (w32 (a4 + 3)))]) (fun x66 w65 =>
   if kd w65 a2 = 10 then
   bI (C 149 w65 [rV a2]) (fun x68 w67 =>
   if x68 = x64 then
    (if x64 = 0 then
     (if kd w67 a3 = 22 ∧ 0 ≤ (0 : Int) ∧ (0 : Int) < ln w67 a3 then
     if (cmpL (gv w67 a3 0) x66) = 0 then
      (some (.inl (23, [some (rV a0), some (rV a1), some (rV a2), some (rV a3), some (iV (w32 (a4 + 6))), none, none], [], w67)))
     else
     some (.inr (some (iV 0), w67)) else none)
    else
    some (.inl (23, [some (rV a0), some (rV a1), some (rV a2), some (rV a3), some (iV (w32 (a4 + 6))), none, none], [], w67)))
   else
   some (.inr (some (iV 0), w67))) else none) else none else none else none else none) else none else none else none)
  else if (f_iand (gv w a0 a4) 63) = 16 then
   (if kd w a0 = 20 ∧ 0 ≤ (w32 (a4 + 1)) ∧ (w32 (a4 + 1)) < ln w a0 then
   bI (C 281 w [rV a1, iV (gv w a0 (w32 (a4 + 1))), rV a3]) (fun x70 w69 =>
   if kd w69 a0 = 20 ∧ 0 ≤ (w32 (a4 + 1)) ∧ (w32 (a4 + 1)) < ln w69 a0 then
   if kd w69 a2 = 10 then
   bI (C 212 w69 [rV a2, iV (gv w69 a0 (w32 (a4 + 1)))]) (fun x72 w71 =>
   if kd w71 a2 = 10 then
   bI (C 149 w71 [rV a2]) (fun x74 w73 =>
   if x74 = x70 then
    (if x70 = 0 then
     (if kd w73 a3 = 22 ∧ 0 ≤ (0 : Int) ∧ (0 : Int) < ln w73 a3 then
     if (cmpL (gv w73 a3 0) x72) = 0 then
      (some (.inl (23, [some (rV a0), some (rV a1), some (rV a2), some (rV a3), some (iV (w32 (a4 + 6))), none, none], [], w73)))
     else
     some (.inr (some (iV 0), w73)) else none)
    else
    some (.inl (23, [some (rV a0), some (rV a1), some (rV a2), some (rV a3), some (iV (w32 (a4 + 6))), none, none], [], w73)))
   else
   some (.inr (some (iV 0), w73))) else none) else none else none) else none)
  else if (f_iand (gv w a0 a4) 63) = 17 then
   (if kd w a0 = 20 ∧ 0 ≤ (w32 (a4 + 1)) ∧ (w32 (a4 + 1)) < ln w a0 then
   if kd w a0 = 20 ∧ 0 ≤ (w32 (a4 + 2)) ∧ (w32 (a4 + 2)) < ln w a0 then
   bI (C 282 w [rV a1, iV (gv w a0 (w32 (a4 + 1))), iV (gv w a0 (w32 (a4 + 2))), rV a3]) (fun x76 w75 =>
   if kd w75 a0 = 20 ∧ 0 ≤ (w32 (a4 + 1)) ∧ (w32 (a4 + 1)) < ln w75 a0 then
   if kd w75 a0 = 20 ∧ 0 ≤ (w32 (a4 + 2)) ∧ (w32 (a4 + 2)) < ln w75 a0 then
   if kd w75 a2 = 10 then
   bI (C 213 w75 [rV a2, iV (gv w75 a0 (w32 (a4 + 1))), iV (gv w75 a0 (w32 (a4 + 2)))]) (fun x78 w77 =>
   if kd w77 a2 = 10 then
   bI (C 149 w77 [rV a2]) (fun x80 w79 =>
   if x80 = x76 then
    (if x76 = 0 then
     (if kd w79 a3 = 22 ∧ 0 ≤ (0 : Int) ∧ (0 : Int) < ln w79 a3 then
     if (cmpL (gv w79 a3 0) x78) = 0 then
      (some (.inl (23, [some (rV a0), some (rV a1), some (rV a2), some (rV a3), some (iV (w32 (a4 + 6))), none, none], [], w79)))
     else
     some (.inr (some (iV 0), w79)) else none)
    else
    some (.inl (23, [some (rV a0), some (rV a1), some (rV a2), some (rV a3), some (iV (w32 (a4 + 6))), none, none], [], w79)))
   else
   some (.inr (some (iV 0), w79))) else none) else none else none else none) else none else none)
  else if (f_iand (gv w a0 a4) 63) = 18 then
   (if kd w a0 = 20 ∧ 0 ≤ (w32 (a4 + 1)) ∧ (w32 (a4 + 1)) < ln w a0 then
   if kd w a0 = 20 ∧ 0 ≤ (w32 (a4 + 2)) ∧ (w32 (a4 + 2)) < ln w a0 then
   if kd w a1 = 9 then
   bI (C 118 w [rV a1, iV (gv w a0 (w32 (a4 + 1))), iV (gv w a0 (w32 (a4 + 2)))]) (fun x82 w81 =>
   if kd w81 a0 = 20 ∧ 0 ≤ (w32 (a4 + 1)) ∧ (w32 (a4 + 1)) < ln w81 a0 then
   if kd w81 a0 = 20 ∧ 0 ≤ (w32 (a4 + 2)) ∧ (w32 (a4 + 2)) < ln w81 a0 then
   if kd w81 a2 = 10 then
   bI (C 215 w81 [rV a2, iV (gv w81 a0 (w32 (a4 + 1))), iV (gv w81 a0 (w32 (a4 + 2)))]) (fun x84 w83 =>
   if x82 = x84 then
    (some (.inl (23, [some (rV a0), some (rV a1), some (rV a2), some (rV a3), some (iV (w32 (a4 + 6))), none, none], [], w83)))
   else
   some (.inr (some (iV 0), w83))) else none else none else none) else none else none else none)
  else if (f_iand (gv w a0 a4) 63) = 19 then
   (if kd w a0 = 20 ∧ 0 ≤ (w32 (a4 + 1)) ∧ (w32 (a4 + 1)) < ln w a0 then
   if kd w a0 = 20 ∧ 0 ≤ (w32 (a4 + 2)) ∧ (w32 (a4 + 2)) < ln w a0 then
   if kd w a1 = 9 then
   bI (C 119 w [rV a1, iV (gv w a0 (w32 (a4 + 1))), iV (gv w a0 (w32 (a4 + 2)))]) (fun x86 w85 =>
   if kd w85 a0 = 20 ∧ 0 ≤ (w32 (a4 + 1)) ∧ (w32 (a4 + 1)) < ln w85 a0 then
   if kd w85 a0 = 20 ∧ 0 ≤ (w32 (a4 + 2)) ∧ (w32 (a4 + 2)) < ln w85 a0 then
   if kd w85 a2 = 10 then
   bI (C 217 w85 [rV a2, iV (gv w85 a0 (w32 (a4 + 1))), iV (gv w85 a0 (w32 (a4 + 2)))]) (fun x88 w87 =>
   if x86 = x88 then
    (some (.inl (23, [some (rV a0), some (rV a1), some (rV a2), some (rV a3), some (iV (w32 (a4 + 6))), none, none], [], w87)))
   else
   some (.inr (some (iV 0), w87))) else none else none else none) else none else none else none)
  else if (f_iand (gv w a0 a4) 63) = 20 then
   (if kd w a0 = 20 ∧ 0 ≤ (w32 (a4 + 1)) ∧ (w32 (a4 + 1)) < ln w a0 then
   if kd w a1 = 9 then
   bI (C 120 w [rV a1, iV (gv w a0 (w32 (a4 + 1)))]) (fun x90 w89 =>
   if kd w89 a0 = 20 ∧ 0 ≤ (w32 (a4 + 1)) ∧ (w32 (a4 + 1)) < ln w89 a0 then
   if kd w89 a2 = 10 then
   bI (C 220 w89 [rV a2, iV (gv w89 a0 (w32 (a4 + 1)))]) (fun x92 w91 =>
   if x90 = x92 then
    (some (.inl (23, [some (rV a0), some (rV a1), some (rV a2), some (rV a3), some (iV (w32 (a4 + 6))), none, none], [], w91)))
   else
   some (.inr (some (iV 0), w91))) else none else none) else none else none)
  else if (f_iand (gv w a0 a4) 63) = 21 then
   (if kd w a0 = 20 ∧ 0 ≤ (w32 (a4 + 1)) ∧ (w32 (a4 + 1)) < ln w a0 then
   if kd w a1 = 9 then
   bI (C 122 w [rV a1, iV (gv w a0 (w32 (a4 + 1)))]) (fun x94 w93 =>
   if kd w93 a0 = 20 ∧ 0 ≤ (w32 (a4 + 1)) ∧ (w32 (a4 + 1)) < ln w93 a0 then
   if kd w93 a2 = 10 then
   bI (C 221 w93 [rV a2, iV (gv w93 a0 (w32 (a4 + 1)))]) (fun x96 w95 =>
   if x94 = x96 then
    (some (.inl (23, [some (rV a0), some (rV a1), some (rV a2), some (rV a3), some (iV (w32 (a4 + 6))), none, none], [], w95)))
   else
   some (.inr (some (iV 0), w95))) else none else none) else none else none)
  else if (f_iand (gv w a0 a4) 63) = 22 then
   (if kd w a0 = 20 ∧ 0 ≤ (w32 (a4 + 1)) ∧ (w32 (a4 + 1)) < ln w a0 then
   if kd w a0 = 20 ∧ 0 ≤ (w32 (a4 + 2)) ∧ (w32 (a4 + 2)) < ln w a0 then
   if kd w a0 = 20 ∧ 0 ≤ (w32 (a4 + 3)) ∧ (w32 (a4 + 3)) < ln w a0 then
   if kd w a1 = 9 then
   bI (C 123 w [rV a1, iV (gv w a0 (w32 (a4 + 1))), iV (gv w a0 (w32 (a4 + 2))), iV (gv w a0 (w32 (a4 + 3)))]) (fun x98 w97 =>
   if kd w97 a0 = 20 ∧ 0 ≤ (w32 (a4 + 1)) ∧ (w32 (a4 + 1)) < ln w97 a0 then
   if kd w97 a0 = 20 ∧ 0 ≤ (w32 (a4 + 2)) ∧ (w32 (a4 + 2)) < ln w97 a0 then
   if kd w97 a0 = 20 ∧ 0 ≤ (w32 (a4 + 3)) ∧ (w32 (a4 + 3)) < ln w97 a0 then
   if kd w97 a2 = 10 then
   bI (C 239 w97 [rV a2, iV (gv w97 a0 (w32 (a4 + 1))), iV (gv w97 a0 (w32 (a4 + 2))), iV (gv w97 a0 (w32 (a4 + 3)))]) (fun x100 w99 =>
   if x98 = x100 then
    (some (.inl (23, [some (rV a0), some (rV a1), some (rV a2), some (rV a3), some (iV (w32 (a4 + 6))), none, none], [], w99)))
   else
   some (.inr (some (iV 0), w99))) else none else none else none else none) else none else none else none else none)
  else if (f_iand (gv w a0 a4) 63) = 23 then
   (if kd w a0 = 20 ∧ 0 ≤ (w32 (a4 + 1)) ∧ (w32 (a4 + 1)) < ln w a0 then
   if kd w a0 = 20 ∧ 0 ≤ (w32 (a4 + 2)) ∧ (w32 (a4 + 2)) < ln w a0 then
   if kd w a0 = 20 ∧ 0 ≤ (w32 (a4 + 3)) ∧ (w32 (a4 + 3)) < ln w a0 then
   if kd w a1 = 9 then
   bI (C 125 w [rV a1, iV (gv w a0 (w32 (a4 + 1))), iV (gv w a0 (w32 (a4 + 2))), iV (gv w a0 (w32 (a4 + 3)))]) (fun x102 w101 =>
   if kd w101 a0 = 20 ∧ 0 ≤ (w32 (a4 + 1)) ∧ (w32 (a4 + 1)) < ln w101 a0 then
   if kd w101 a0 = 20 ∧ 0 ≤ (w32 (a4 + 2)) ∧ (w32 (a4 + 2)) < ln w101 a0 then
   if kd w101 a0 = 20 ∧ 0 ≤ (w32 (a4 + 3)) ∧ (w32 (a4 + 3)) < ln w101 a0 then
   if kd w101 a2 = 10 then
   bI (C 240 w101 [rV a2, iV (gv w101 a0 (w32 (a4 + 1))), iV (gv w101 a0 (w32 (a4 + 2))), iV (gv w101 a0 (w32 (a4 + 3)))]) (fun x104 w103 =>
   if x102 = x104 then
    (some (.inl (23, [some (rV a0), some (rV a1), some (rV a2), some (rV a3), some (iV (w32 (a4 + 6))), none, none], [], w103)))
   else
   some (.inr (some (iV 0), w103))) else none else none else none else none) else none else none else none else none)
  else if (f_iand (gv w a0 a4) 63) = 24 then
   (if kd w a0 = 20 ∧ 0 ≤ (w32 (a4 + 1)) ∧ (w32 (a4 + 1)) < ln w a0 then
   if kd w a0 = 20 ∧ 0 ≤ (w32 (a4 + 2)) ∧ (w32 (a4 + 2)) < ln w a0 then
   if kd w a0 = 20 ∧ 0 ≤ (w32 (a4 + 3)) ∧ (w32 (a4 + 3)) < ln w a0 then
   if kd w a1 = 9 then
   bI (C 126 w [rV a1, iV (gv w a0 (w32 (a4 + 1))), iV (gv w a0 (w32 (a4 + 2))), iV (gv w a0 (w32 (a4 + 3)))]) (fun x106 w105 =>
   if kd w105 a0 = 20 ∧ 0 ≤ (w32 (a4 + 1)) ∧ (w32 (a4 + 1)) < ln w105 a0 then
   if kd w105 a0 = 20 ∧ 0 ≤ (w32 (a4 + 2)) ∧ (w32 (a4 + 2)) < ln w105 a0 then
   if kd w105 a0 = 20 ∧ 0 ≤ (w32 (a4 + 3)) ∧ (w32 (a4 + 3)) < ln w105 a0 then
   if kd w105 a2 = 10 then
   bI (C 241 w105 [rV a2, iV (gv w105 a0 (w32 (a4 + 1))), iV (gv w105 a0 (w32 (a4 + 2))), iV (gv w105 a0 (w32 (a4 + 3)))]) (fun x108 w107 =>
   if x106 = x108 then
    (some (.inl (23, [some (rV a0), some (rV a1), some (rV a2), some (rV a3), some (iV (w32 (a4 + 6))), none, none], [], w107)))
   else
   some (.inr (some (iV 0), w107))) else none else none else none else none) else none else none else none else none)
  else if (f_iand (gv w a0 a4) 63) = 25 then
   (if kd w a0 = 20 ∧ 0 ≤ (w32 (a4 + 1)) ∧ (w32 (a4 + 1)) < ln w a0 then
   if kd w a0 = 20 ∧ 0 ≤ (w32 (a4 + 2)) ∧ (w32 (a4 + 2)) < ln w a0 then
   if kd w a0 = 20 ∧ 0 ≤ (w32 (a4 + 3)) ∧ (w32 (a4 + 3)) < ln w a0 then
   if kd w a1 = 9 then
   bI (C 127 w [rV a1, iV (gv w a0 (w32 (a4 + 1))), iV (gv w a0 (w32 (a4 + 2))), iV (gv w a0 (w32 (a4 + 3)))]) (fun x110 w109 =>
   if kd w109 a0 = 20 ∧ 0 ≤ (w32 (a4 + 1)) ∧ (w32 (a4 + 1)) < ln w109 a0 then
   if kd w109 a0 = 20 ∧ 0 ≤ (w32 (a4 + 2)) ∧ (w32 (a4 + 2)) < ln w109 a0 then
   if kd w109 a0 = 20 ∧ 0 ≤ (w32 (a4 + 3)) ∧ (w32 (a4 + 3)) < ln w109 a0 then
   if kd w109 a2 = 10 then
   bI (C 242 w109 [rV a2, iV (gv w109 a0 (w32 (a4 + 1))), iV (gv w109 a0 (w32 (a4 + 2))), iV (gv w109 a0 (w32 (a4 + 3)))]) (fun x112 w111 =>
   if x110 = x112 then
    (some (.inl (23, [some (rV a0), some (rV a1), some (rV a2), some (rV a3), some (iV (w32 (a4 + 6))), none, none], [], w111)))
   else
   some (.inr (some (iV 0), w111))) else none else none else none else none) else none else none else none else none)
  else if (f_iand (gv w a0 a4) 63) = 26 then
   (if kd w a0 = 20 ∧ 0 ≤ (w32 (a4 + 1)) ∧ (w32 (a4 + 1)) < ln w a0 then
   if kd w a0 = 20 ∧ 0 ≤ (w32 (a4 + 2)) ∧ (w32 (a4 + 2)) < ln w a0 then
   if kd w a1 = 9 then
   bI (C 128 w [rV a1, iV (gv w a0 (w32 (a4 + 1))), iV (gv w a0 (w32 (a4 + 2)))]) (fun x114 w113 =>
   if kd w113 a0 = 20 ∧ 0 ≤ (w32 (a4 + 1)) ∧ (w32 (a4 + 1)) < ln w113 a0 then
   if kd w113 a0 = 20 ∧ 0 ≤ (w32 (a4 + 2)) ∧ (w32 (a4 + 2)) < ln w113 a0 then
   if kd w113 a2 = 10 then
   bI (C 243 w113 [rV a2, iV (gv w113 a0 (w32 (a4 + 1))), iV (gv w113 a0 (w32 (a4 + 2)))]) (fun x116 w115 =>
   if x114 = x116 then
    (some (.inl (23, [some (rV a0), some (rV a1), some (rV a2), some (rV a3), some (iV (w32 (a4 + 6))), none, none], [], w115)))
   else
   some (.inr (some (iV 0), w115))) else none else none else none) else none else none else none)
  else if (f_iand (gv w a0 a4) 63) = 27 then
   (if kd w a0 = 20 ∧ 0 ≤ (w32 (a4 + 1)) ∧ (w32 (a4 + 1)) < ln w a0 then
   if kd w a0 = 20 ∧ 0 ≤ (w32 (a4 + 2)) ∧ (w32 (a4 + 2)) < ln w a0 then
   if kd w a1 = 9 then
   bI (C 129 w [rV a1, iV (gv w a0 (w32 (a4 + 1))), iV (gv w a0 (w32 (a4 + 2)))]) (fun x118 w117 =>
   if kd w117 a0 = 20 ∧ 0 ≤ (w32 (a4 + 1)) ∧ (w32 (a4 + 1)) < ln w117 a0 then
   if kd w117 a0 = 20 ∧ 0 ≤ (w32 (a4 + 2)) ∧ (w32 (a4 + 2)) < ln w117 a0 then
   if kd w117 a2 = 10 then
   bI (C 245 w117 [rV a2, iV (gv w117 a0 (w32 (a4 + 1))), iV (gv w117 a0 (w32 (a4 + 2)))]) (fun x120 w119 =>
   if x118 = x120 then
    (some (.inl (23, [some (rV a0), some (rV a1), some (rV a2), some (rV a3), some (iV (w32 (a4 + 6))), none, none], [], w119)))
   else
   some (.inr (some (iV 0), w119))) else none else none else none) else none else none else none)
  else if (f_iand (gv w a0 a4) 63) = 28 then
   (if kd w a0 = 20 ∧ 0 ≤ (w32 (a4 + 1)) ∧ (w32 (a4 + 1)) < ln w a0 then
   if kd w a0 = 20 ∧ 0 ≤ (w32 (a4 + 2)) ∧ (w32 (a4 + 2)) < ln w a0 then
   if kd w a0 = 20 ∧ 0 ≤ (w32 (a4 + 3)) ∧ (w32 (a4 + 3)) < ln w a0 then
   if kd w a1 = 9 then
   bI (C 130 w [rV a1, iV (gv w a0 (w32 (a4 + 1))), iV (gv w a0 (w32 (a4 + 2))), iV (gv w a0 (w32 (a4 + 3)))]) (fun x122 w121 =>
   if kd w121 a0 = 20 ∧ 0 ≤ (w32 (a4 + 1)) ∧ (w32 (a4 + 1)) < ln w121 a0 then
   if kd w121 a0 = 20 ∧ 0 ≤ (w32 (a4 + 2)) ∧ (w32 (a4 + 2)) < ln w121 a0 then
   if kd w121 a0 = 20 ∧ 0 ≤ (w32 (a4 + 3)) ∧ (w32 (a4 + 3)) < ln w121 a0 then
   if kd w121 a2 = 10 then
   bI (C 246 w121 [rV a2, iV (gv w121 a0 (w32 (a4 + 1))), iV (gv w121 a0 (w32 (a4 + 2))), iV (gv w121 a0 (w32 (a4 + 3)))]) (fun x124 w123 =>
   if x122 = x124 then
    (some (.inl (23, [some (rV a0), some (rV a1), some (rV a2), some (rV a3), some (iV (w32 (a4 + 6))), none, none], [], w123)))
   else
   some (.inr (some (iV 0), w123))) else none else none else none else none) else none else none else none else none)
  else if (f_iand (gv w a0 a4) 63) = 29 then
   (if kd w a1 = 9 then
   bI (C 131 w [rV a1]) (fun x126 w125 =>
   if kd w125 a2 = 10 then
   bI (C 223 w125 [rV a2]) (fun x128 w127 =>
   if x126 = x128 then
    (some (.inl (23, [some (rV a0), some (rV a1), some (rV a2), some (rV a3), some (iV (w32 (a4 + 6))), none, none], [], w127)))
   else
   some (.inr (some (iV 0), w127))) else none) else none)
  else if (f_iand (gv w a0 a4) 63) = 30 then
   (if kd w a0 = 20 ∧ 0 ≤ (w32 (a4 + 1)) ∧ (w32 (a4 + 1)) < ln w a0 then
   if kd w a1 = 9 then
   bI (C 132 w [rV a1, iV (gv w a0 (w32 (a4 + 1)))]) (fun x130 w129 =>
   if kd w129 a0 = 20 ∧ 0 ≤ (w32 (a4 + 1)) ∧ (w32 (a4 + 1)) < ln w129 a0 then
   if kd w129 a2 = 10 then
   bI (C 224 w129 [rV a2, iV (gv w129 a0 (w32 (a4 + 1)))]) (fun x132 w131 =>
   if x130 = x132 then
    (some (.inl (23, [some (rV a0), some (rV a1), some (rV a2), some (rV a3), some (iV (w32 (a4 + 6))), none, none], [], w131)))
   else
   some (.inr (some (iV 0), w131))) else none else none) else none else none)
  else if (f_iand (gv w a0 a4) 63) = 31 then
   (if kd w a0 = 20 ∧ 0 ≤ (w32 (a4 + 1)) ∧ (w32 (a4 + 1)) < ln w a0 then
   if kd w a0 = 20 ∧ 0 ≤ (w32 (a4 + 2)) ∧ (w32 (a4 + 2)) < ln w a0 then
   if kd w a1 = 9 then
   bI (C 133 w [rV a1, iV (gv w a0 (w32 (a4 + 1))), iV (gv w a0 (w32 (a4 + 2)))]) (fun x134 w133 =>
   if kd w133 a0 = 20 ∧ 0 ≤ (w32 (a4 + 1)) ∧ (w32 (a4 + 1)) < ln w133 a0 then
   if kd w133 a0 = 20 ∧ 0 ≤ (w32 (a4 + 2)) ∧ (w32 (a4 + 2)) < ln w133 a0 then
   if kd w133 a2 = 10 then
   bI (C 225 w133 [rV a2, iV (gv w133 a0 (w32 (a4 + 1))), iV (gv w133 a0 (w32 (a4 + 2)))]) (fun x136 w135 =>
   if x134 = x136 then
    (some (.inl (23, [some (rV a0), some (rV a1), some (rV a2), some (rV a3), some (iV (w32 (a4 + 6))), none, none], [], w135)))
   else
   some (.inr (some (iV 0), w135))) else none else none else none) else none else none else none)
  else if (f_iand (gv w a0 a4) 63) = 32 then
   (if kd w a0 = 20 ∧ 0 ≤ (w32 (a4 + 1)) ∧ (w32 (a4 + 1)) < ln w a0 then
   if kd w a0 = 20 ∧ 0 ≤ (w32 (a4 + 2)) ∧ (w32 (a4 + 2)) < ln w a0 then
   if kd w a1 = 9 then
   bI (C 135 w [rV a1, iV (gv w a0 (w32 (a4 + 1))), iV (gv w a0 (w32 (a4 + 2)))]) (fun x138 w137 =>
   if kd w137 a0 = 20 ∧ 0 ≤ (w32 (a4 + 1)) ∧ (w32 (a4 + 1)) < ln w137 a0 then
   if kd w137 a0 = 20 ∧ 0 ≤ (w32 (a4 + 2)) ∧ (w32 (a4 + 2)) < ln w137 a0 then
   if kd w137 a2 = 10 then
   bI (C 226 w137 [rV a2, iV (gv w137 a0 (w32 (a4 + 1))), iV (gv w137 a0 (w32 (a4 + 2)))]) (fun x140 w139 =>
   if x138 = x140 then
    (some (.inl (23, [some (rV a0), some (rV a1), some (rV a2), some (rV a3), some (iV (w32 (a4 + 6))), none, none], [], w139)))
   else
   some (.inr (some (iV 0), w139))) else none else none else none) else none else none else none)
  else if (f_iand (gv w a0 a4) 63) = 33 then
   (if kd w a0 = 20 ∧ 0 ≤ (w32 (a4 + 1)) ∧ (w32 (a4 + 1)) < ln w a0 then
   if kd w a0 = 20 ∧ 0 ≤ (w32 (a4 + 2)) ∧ (w32 (a4 + 2)) < ln w a0 then
   if kd w a0 = 20 ∧ 0 ≤ (w32 (a4 + 3)) ∧ (w32 (a4 + 3)) < ln w a0 then
   if kd w a1 = 9 then
   bI (C 136 w [rV a1, iV (gv w a0 (w32 (a4 + 1))), iV (gv w a0 (w32 (a4 + 2))), iV (gv w a0 (w32 (a4 + 3)))]) (fun x142 w141 =>
   if kd w141 a0 = 20 ∧ 0 ≤ (w32 (a4 + 1)) ∧ (w32 (a4 + 1)) < ln w141 a0 then
   if kd w141 a0 = 20 ∧ 0 ≤ (w32 (a4 + 2)) ∧ (w32 (a4 + 2)) < ln w141 a0 then
   if kd w141 a0 = 20 ∧ 0 ≤ (w32 (a4 + 3)) ∧ (w32 (a4 + 3)) < ln w141 a0 then
   if kd w141 a2 = 10 then
   bI (C 227 w141 [rV a2, iV (gv w141 a0 (w32 (a4 + 1))), iV (gv w141 a0 (w32 (a4 + 2))), iV (gv w141 a0 (w32 (a4 + 3)))]) (fun x144 w143 =>
   if x142 = x144 then
    (some (.inl (23, [some (rV a0), some (rV a1), some (rV a2), some (rV a3), some (iV (w32 (a4 + 6))), none, none], [], w143)))
   else
   some (.inr (some (iV 0), w143))) else none else none else none else none) else none else none else none else none)
  else if (f_iand (gv w a0 a4) 63) = 34 then
   (if kd w a0 = 20 ∧ 0 ≤ (w32 (a4 + 1)) ∧ (w32 (a4 + 1)) < ln w a0 then
   if kd w a0 = 20 ∧ 0 ≤ (w32 (a4 + 2)) ∧ (w32 (a4 + 2)) < ln w a0 then
   if kd w a1 = 9 then
   bI (C 137 w [rV a1, iV (gv w a0 (w32 (a4 + 1))), iV (gv w a0 (w32 (a4 + 2)))]) (fun x146 w145 =>
   if kd w145 a0 = 20 ∧ 0 ≤ (w32 (a4 + 1)) ∧ (w32 (a4 + 1)) < ln w145 a0 then
   if kd w145 a0 = 20 ∧ 0 ≤ (w32 (a4 + 2)) ∧ (w32 (a4 + 2)) < ln w145 a0 then
   if kd w145 a2 = 10 then
   bI (C 229 w145 [rV a2, iV (gv w145 a0 (w32 (a4 + 1))), iV (gv w145 a0 (w32 (a4 + 2)))]) (fun x148 w147 =>
   if x146 = x148 then
    (some (.inl (23, [some (rV a0), some (rV a1), some (rV a2), some (rV a3), some (iV (w32 (a4 + 6))), none, none], [], w147)))
   else
   some (.inr (some (iV 0), w147))) else none else none else none) else none else none else none)
  else if (f_iand (gv w a0 a4) 63) = 35 then
   (if kd w a0 = 20 ∧ 0 ≤ (w32 (a4 + 1)) ∧ (w32 (a4 + 1)) < ln w a0 then
   if kd w a0 = 20 ∧ 0 ≤ (w32 (a4 + 2)) ∧ (w32 (a4 + 2)) < ln w a0 then
   if kd w a1 = 9 then
   bI (C 138 w [rV a1, iV (gv w a0 (w32 (a4 + 1))), iV (gv w a0 (w32 (a4 + 2)))]) (fun x150 w149 =>
   if kd w149 a0 = 20 ∧ 0 ≤ (w32 (a4 + 1)) ∧ (w32 (a4 + 1)) < ln w149 a0 then
   if kd w149 a0 = 20 ∧ 0 ≤ (w32 (a4 + 2)) ∧ (w32 (a4 + 2)) < ln w149 a0 then
   if kd w149 a2 = 10 then
   bI (C 247 w149 [rV a2, iV (gv w149 a0 (w32 (a4 + 1))), iV (gv w149 a0 (w32 (a4 + 2)))]) (fun x152 w151 =>
   if x150 = x152 then
    (some (.inl (23, [some (rV a0), some (rV a1), some (rV a2), some (rV a3), some (iV (w32 (a4 + 6))), none, none], [], w151)))
   else
   some (.inr (some (iV 0), w151))) else none else none else none) else none else none else none)
  else if (f_iand (gv w a0 a4) 63) = 36 then
   (if kd w a0 = 20 ∧ 0 ≤ (w32 (a4 + 1)) ∧ (w32 (a4 + 1)) < ln w a0 then
   if kd w a0 = 20 ∧ 0 ≤ (w32 (a4 + 2)) ∧ (w32 (a4 + 2)) < ln w a0 then
   if kd w a1 = 9 then
   bI (C 139 w [rV a1, iV (gv w a0 (w32 (a4 + 1))), iV (gv w a0 (w32 (a4 + 2)))]) (fun x154 w153 =>
   if kd w153 a0 = 20 ∧ 0 ≤ (w32 (a4 + 1)) ∧ (w32 (a4 + 1)) < ln w153 a0 then
   if kd w153 a0 = 20 ∧ 0 ≤ (w32 (a4 + 2)) ∧ (w32 (a4 + 2)) < ln w153 a0 then
   if kd w153 a2 = 10 then
   bI (C 248 w153 [rV a2, iV (gv w153 a0 (w32 (a4 + 1))), iV (gv w153 a0 (w32 (a4 + 2)))]) (fun x156 w155 =>
   if x154 = x156 then
    (some (.inl (23, [some (rV a0), some (rV a1), some (rV a2), some (rV a3), some (iV (w32 (a4 + 6))), none, none], [], w155)))
   else
   some (.inr (some (iV 0), w155))) else none else none else none) else none else none else none)
  else if (f_iand (gv w a0 a4) 63) = 37 then
   (if kd w a1 = 9 then
   bI (C 140 w [rV a1]) (fun x158 w157 =>
   if kd w157 a2 = 10 then
   bI (C 249 w157 [rV a2]) (fun x160 w159 =>
   if x158 = x160 then
    (some (.inl (23, [some (rV a0), some (rV a1), some (rV a2), some (rV a3), some (iV (w32 (a4 + 6))), none, none], [], w159)))
   else
   some (.inr (some (iV 0), w159))) else none) else none)
  else if (f_iand (gv w a0 a4) 63) = 38 then
   (if kd w a0 = 20 ∧ 0 ≤ (w32 (a4 + 1)) ∧ (w32 (a4 + 1)) < ln w a0 then
   if kd w a0 = 20 ∧ 0 ≤ (w32 (a4 + 2)) ∧ (w32 (a4 + 2)) < ln w a0 then
   if kd w a1 = 9 then
   bI (C 141 w [rV a1, iV (gv w a0 (w32 (a4 + 1))), iV (gv w a0 (w32 (a4 + 2)))]) (fun x162 w161 =>
   if kd w161 a0 = 20 ∧ 0 ≤ (w32 (a4 + 1)) ∧ (w32 (a4 + 1)) < ln w161 a0 then
   if kd w161 a0 = 20 ∧ 0 ≤ (w32 (a4 + 2)) ∧ (w32 (a4 + 2)) < ln w161 a0 then
   if kd w161 a2 = 10 then
   bI (C 253 w161 [rV a2, iV (gv w161 a0 (w32 (a4 + 1))), iV (gv w161 a0 (w32 (a4 + 2)))]) (fun x164 w163 =>
   if x162 = x164 then
    (some (.inl (23, [some (rV a0), some (rV a1), some (rV a2), some (rV a3), some (iV (w32 (a4 + 6))), none, none], [], w163)))
   else
   some (.inr (some (iV 0), w163))) else none else none else none) else none else none else none)
  else if (f_iand (gv w a0 a4) 63) = 39 then
   (if kd w a0 = 20 ∧ 0 ≤ (w32 (a4 + 1)) ∧ (w32 (a4 + 1)) < ln w a0 then
   if kd w a1 = 9 then
   bI (C 142 w [rV a1, iV (gv w a0 (w32 (a4 + 1)))]) (fun x166 w165 =>
   if kd w165 a0 = 20 ∧ 0 ≤ (w32 (a4 + 1)) ∧ (w32 (a4 + 1)) < ln w165 a0 then
   if kd w165 a2 = 10 then
   bI (C 260 w165 [rV a2, iV (gv w165 a0 (w32 (a4 + 1)))]) (fun x168 w167 =>
   if x166 = x168 then
    (some (.inl (23, [some (rV a0), some (rV a1), some (rV a2), some (rV a3), some (iV (w32 (a4 + 6))), none, none], [], w167)))
   else
   some (.inr (some (iV 0), w167))) else none else none) else none else none)
  else if (f_iand (gv w a0 a4) 63) = 40 then
   (if kd w a0 = 20 ∧ 0 ≤ (w32 (a4 + 1)) ∧ (w32 (a4 + 1)) < ln w a0 then
   if kd w a1 = 9 then
   bI (C 143 w [rV a1, iV (gv w a0 (w32 (a4 + 1)))]) (fun x170 w169 =>
   if kd w169 a0 = 20 ∧ 0 ≤ (w32 (a4 + 1)) ∧ (w32 (a4 + 1)) < ln w169 a0 then
   if kd w169 a2 = 10 then
   bI (C 262 w169 [rV a2, iV (gv w169 a0 (w32 (a4 + 1)))]) (fun x172 w171 =>
   if x170 = x172 then
    (some (.inl (23, [some (rV a0), some (rV a1), some (rV a2), some (rV a3), some (iV (w32 (a4 + 6))), none, none], [], w171)))
   else
   some (.inr (some (iV 0), w171))) else none else none) else none else none)
  else if (f_iand (gv w a0 a4) 63) = 41 then
   (if kd w a1 = 9 then
   bI (C 144 w [rV a1]) (fun x174 w173 =>
   if kd w173 a2 = 10 then
   bI (C 273 w173 [rV a2]) (fun x176 w175 =>
   if x174 = x176 then
    (some (.inl (23, [some (rV a0), some (rV a1), some (rV a2), some (rV a3), some (iV (w32 (a4 + 6))), none, none], [], w175)))
   else
   some (.inr (some (iV 0), w175))) else none) else none)
  else if (f_iand (gv w a0 a4) 63) = 42 then
   (if kd w a0 = 20 ∧ 0 ≤ (w32 (a4 + 1)) ∧ (w32 (a4 + 1)) < ln w a0 then
   if kd w a1 = 9 then
   bI (C 145 w [rV a1, iV (gv w a0 (w32 (a4 + 1)))]) (fun x178 w177 =>
   if kd w177 a0 = 20 ∧ 0 ≤ (w32 (a4 + 1)) ∧ (w32 (a4 + 1)) < ln w177 a0 then
   if kd w177 a2 = 10 then
   bI (C 275 w177 [rV a2, iV (gv w177 a0 (w32 (a4 + 1)))]) (fun x180 w179 =>
   if x178 = x180 then
    (some (.inl (23, [some (rV a0), some (rV a1), some (rV a2), some (rV a3), some (iV (w32 (a4 + 6))), none, none], [], w179)))
   else
   some (.inr (some (iV 0), w179))) else none else none) else none else none)
  else if (f_iand (gv w a0 a4) 63) = 43 then
   (if kd w a0 = 20 ∧ 0 ≤ (w32 (a4 + 1)) ∧ (w32 (a4 + 1)) < ln w a0 then
   if kd w a1 = 9 then
   bI (C 146 w [rV a1, iV (gv w a0 (w32 (a4 + 1)))]) (fun x182 w181 =>
   if kd w181 a0 = 20 ∧ 0 ≤ (w32 (a4 + 1)) ∧ (w32 (a4 + 1)) < ln w181 a0 then
   if kd w181 a2 = 10 then
   bI (C 276 w181 [rV a2, iV (gv w181 a0 (w32 (a4 + 1)))]) (fun x184 w183 =>
   if x182 = x184 then
    (some (.inl (23, [some (rV a0), some (rV a1), some (rV a2), some (rV a3), some (iV (w32 (a4 + 6))), none, none], [], w183)))
   else
   some (.inr (some (iV 0), w183))) else none else none) else none else none)
  else if (f_iand (gv w a0 a4) 63) = 44 then
   (if kd w a0 = 20 ∧ 0 ≤ (w32 (a4 + 1)) ∧ (w32 (a4 + 1)) < ln w a0 then
   if kd w a1 = 9 then
   bI (C 147 w [rV a1, iV (gv w a0 (w32 (a4 + 1)))]) (fun x186 w185 =>
   if kd w185 a0 = 20 ∧ 0 ≤ (w32 (a4 + 1)) ∧ (w32 (a4 + 1)) < ln w185 a0 then
   if kd w185 a2 = 10 then
   bI (C 277 w185 [rV a2, iV (gv w185 a0 (w32 (a4 + 1)))]) (fun x188 w187 =>
   if x186 = x188 then
    (some (.inl (23, [some (rV a0), some (rV a1), some (rV a2), some (rV a3), some (iV (w32 (a4 + 6))), none, none], [], w187)))
   else
   some (.inr (some (iV 0), w187))) else none else none) else none else none)
  else if (f_iand (gv w a0 a4) 63) = 45 then
   (if kd w a0 = 20 ∧ 0 ≤ (w32 (a4 + 1)) ∧ (w32 (a4 + 1)) < ln w a0 then
   if kd w a1 = 9 then
   bI (C 148 w [rV a1, iV (gv w a0 (w32 (a4 + 1)))]) (fun x190 w189 =>
   if kd w189 a0 = 20 ∧ 0 ≤ (w32 (a4 + 1)) ∧ (w32 (a4 + 1)) < ln w189 a0 then
   if kd w189 a2 = 10 then
   bI (C 278 w189 [rV a2, iV (gv w189 a0 (w32 (a4 + 1)))]) (fun x192 w191 =>
   if x190 = x192 then
    (some (.inl (23, [some (rV a0), some (rV a1), some (rV a2), some (rV a3), some (iV (w32 (a4 + 6))), none, none], [], w191)))
   else
   some (.inr (some (iV 0), w191))) else none else none) else none else none)
  else some (.inl (23, [some (rV a0), some (rV a1), some (rV a2), some (rV a3), some (iV (w32 (a4 + 6))), none, none], [], w)) else none else none := by
  rfl
