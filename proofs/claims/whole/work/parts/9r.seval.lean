/-! ===== a sentence weighed by the class ===== -/
theorem dec1 {P : Prop} [Decidable P] (w : sW) : (if P then (some (.inr (some (iV 1), w)) : Option sO) else some (.inr (some (iV 0), w))) = some (.inr (some (iV (bI1 (decide P))), w)) := by
  by_cases c : P
  · rw [if_pos c]; simp [c]
  · rw [if_neg c]; simp [c]
/-- the stack s stands in N -/
def StkI (w : sW) (N : Int) : List Bool → Prop
  | [] => True
  | b :: s => gv w N (s.length : Int) = bI1 b ∧ StkI w N s
theorem StkI.cg {w w' : sW} {N : Int} : ∀ (s : List Bool), StkI w N s → (∀ j, 0 ≤ j → j < (s.length : Int) → gv w' N j = gv w N j) → StkI w' N s
  | [], h, e => trivial
  | b :: s, h, e => by
    have hl : ((b :: s).length : Int) = (s.length : Int) + 1 := by rw [List.length_cons]; omega
    exact ⟨by rw [e _ (by omega) (by omega)]; exact h.1, StkI.cg s h.2 (fun j j0 j1 => e j j0 (by omega))⟩
theorem StkI.put {w : sW} {N : Int} {s : List Bool} {b : Bool} (h : StkI w N s) : StkI (sv w N (s.length : Int) (bI1 b)) N (b :: s) := ⟨gvSS _ _ _ _, h.cg s (fun j j0 j1 => by rw [gvS, if_neg (by omega)])⟩
def tpF : List Bool → Int
  | [b] => bI1 b
  | _ => 0
section SV
variable {d : Nat} {w : sW} {q a r : Int} {A : Rm}
theorem t_measure (hS : StI w q A) (hr : isR A r) {W : Int} (hW : 1 ≤ W ∧ W ≤ 23) : Ex pro (d + 3) 74 w [rV W, rV (q + 5 + 3 * r), iV r] = some (some (iV (msF A r W)), w) := by
  have g := hS.2.2.2.2.2.1 r hr.1 hr.2
  have n6 := g.2.1.2.1
  have k5 := g.1.1.1
  refine xX7_measure (Rn.ret ?_)
  unfold msF
  rw [eX7_measure_0, if_pos (by omega)]
  by_cases c1 : W = 19
  · rw [if_pos c1, if_pos c1, if_pos k5, g.1.2.1]
  · rw [if_neg c1, if_neg c1, if_pos (by omega)]
    by_cases c2 : W = 20
    · rw [if_pos c2, if_pos c2, if_pos k5, if_pos k5, g.1.2.1, s_countIn (d := d) g.at (by unfold in32; omega)]
      simp only [bI]
      rw [if_pos (by omega)]
    · rw [if_neg c2, if_neg c2, if_pos (by omega)]
      by_cases c3 : W = 21
      · rw [if_pos c3, if_pos c3, if_pos k5, s_runCount (d := d + 1) g.at]
        simp only [bI]
      · rw [if_neg c3, if_neg c3, if_pos (by omega)]
        by_cases c4 : W = 22
        · rw [if_pos c4, if_pos c4, if_pos k5, g.1.2.2.1]
        · rw [if_neg c4, if_neg c4]
theorem t_isPlain (hS : StI w q A) (hE : SeSh w a) (hr : isR A r) {k : Int} (hk : 0 ≤ k ∧ k < 40) {x : Sp} (e : gv w (a + 1) k = x.1 ∧ gv w (a + 2) k = x.2.1 ∧ gv w (a + 3) k = x.2.2) (hx : 1 ≤ x.1 ∧ x.1 ≤ 23) : Ex pro (d + 4) 73 w [rV a, iV k, rV q, iV r] = some (some (iV (bI1 (plF x A r))), w) := by
  have g := hS.2.2.2.2.2.1 r hr.1 hr.2
  have n6 := g.2.1.2.1
  have k5 := g.1.1.1
  have k8 := hS.1.1.1
  have q32 : 32 ≤ q := hS.1.2.2.2.2.2.2
  obtain ⟨⟨a1, a2, a3, a4, a5⟩, b1, b2, b3, b4, b5⟩ := hE
  have i1 : (24 ≤ kd w (a + 1) ∧ kd w (a + 1) ≤ 27) ∧ 0 ≤ k ∧ k < ln w (a + 1) := ⟨by omega, by omega, by omega⟩
  have i2 : kd w (a + 2) = 20 ∧ 0 ≤ k ∧ k < ln w (a + 2) := ⟨b2.1, by omega, by omega⟩
  have i3 : kd w (a + 3) = 20 ∧ 0 ≤ k ∧ k < ln w (a + 3) := ⟨b3.1, by omega, by omega⟩
  have nz : ¬ q + 5 + 3 * r = 0 := by have := hr.1; omega
  refine xX7_isPlainTrue (Rn.ret ?_)
  rw [eX7_isPlainTrue_0, if_pos k8, m_rowAt (d := d + 2) hS r, if_pos hr, bR_eq (by have := hr.1; omega), if_neg nz, if_pos a1, a2, if_pos i1, e.1, if_pos (by omega)]
  unfold plF
  by_cases c1 : x.1 = 15
  · rw [if_pos c1, if_pos c1, if_pos k5, g.1.2.1, dec1]
  · rw [if_neg c1, if_neg c1, if_pos (by omega)]
    by_cases c2 : x.1 = 16
    · rw [if_pos c2, if_pos c2, if_pos k5, if_pos k5, g.1.2.1, s_countIn (d := d + 1) g.at (by unfold in32; omega)]
      simp only [bI]
      rw [if_neg (by decide), if_pos (by omega : 0 ≤ (0 : Int) ∧ 0 ≤ (A.2.2.2.1 r).1 ∧ 0 + (A.2.2.2.1 r).1 ≤ (A.2.2.2.1 r).1), dec1]
    · rw [if_neg c2, if_neg c2, if_pos (by omega)]
      by_cases c34 : x.1 = 17 ∨ x.1 = 18
      · have body : ∀ X : Option sO, X = (if kd w a = 7 then
   if kd w (gv w a 2) = 20 ∧ 0 ≤ k ∧ k < ln w (gv w a 2) then
   if kd w q = 8 then
   bR (Ex pro (d + 3) 77 w [rV q, iV (gv w (gv w a 2) k)]) (fun r6 w5 =>
   if r6 = 0 then
    (some (.inr (some (iV 0), w5)))
   else
   if x.1 ≤ 23 ∧ (17 : Int) ≤ 23 then
   (if x.1 = (17 : Int) then
    (if kd w5 (q + 5 + 3 * r) = 5 then
    bI (Ex pro (d + 3) 43 w5 [rV (q + 5 + 3 * r), rV r6]) (fun x8 w7 =>
    if x8 = (-1) then
     (some (.inr (some (iV 1), w7)))
    else
    some (.inr (some (iV 0), w7))) else none)
   else
   if kd w5 (q + 5 + 3 * r) = 5 then
   bI (Ex pro (d + 3) 44 w5 [rV (q + 5 + 3 * r), rV r6]) (fun x10 w9 =>
   if x10 = 0 then
    (some (.inr (some (iV 0), w9)))
   else
   some (.inr (some (iV 1), w9))) else none) else none) else none else none else none) → X = some (.inr (some (iV (bI1 (if x.1 = 17 then decide (isR A x.2.2 ∧ lkF A r x.2.2 = -1) else decide (isR A x.2.2 ∧ (lkF A r x.2.2 = -1 ∨ lkF A r x.2.2 = nA A x.2.2))))), w)) := fun X hX => by
          rw [hX, if_pos a1, a4, if_pos i3, if_pos k8, e.2.2, m_rowAt (d := d + 2) hS x.2.2]
          by_cases hs : isR A x.2.2
          · have gs := hS.2.2.2.2.2.1 x.2.2 hs.1 hs.2
            rw [if_pos hs, bR_eq (by have := hs.1; omega), if_neg (by have := hs.1; omega), if_pos (by omega)]
            by_cases c3 : x.1 = 17
            · rw [if_pos c3, if_pos c3, if_pos k5, s_firstUnlike (d := d + 2) g.at gs.at]
              simp only [bI]
              rw [dec1]
              exact congrArg (fun b : Bool => (some (.inr (some (iV (bI1 b)), w)) : Option sO)) (decide_eq_decide.mpr ⟨fun z => ⟨hs, z⟩, fun z => z.2⟩)
            · rw [if_neg c3, if_neg c3, if_pos k5, s_beginsWith (d := d + 1) g.at gs.at]
              simp only [bI, ite10]
              rw [dec1]
              exact congrArg (fun b : Bool => (some (.inr (some (iV (bI1 b)), w)) : Option sO)) (decide_eq_decide.mpr ⟨fun z => ⟨hs, z⟩, fun z => z.2⟩)
          · rw [if_neg hs, bR_eq (by omega), if_pos rfl]
            have f1 : decide (isR A x.2.2 ∧ lkF A r x.2.2 = -1) = false := decide_eq_false (fun z => hs z.1)
            have f2 : decide (isR A x.2.2 ∧ (lkF A r x.2.2 = -1 ∨ lkF A r x.2.2 = nA A x.2.2)) = false := decide_eq_false (fun z => hs z.1)
            rw [f1, f2]
            split <;> rfl
        have fin := body _ rfl
        by_cases c3 : x.1 = 17
        · rw [if_pos c3] at fin
          rw [if_pos c3, if_pos c3]
          rw [← fin]
        · have c4 : x.1 = 18 := by omega
          rw [if_neg c3] at fin
          rw [if_neg c3, if_neg c3, if_pos (by omega), if_pos c4, if_pos c4]
          rw [← fin]
      · have n17 : ¬ x.1 = 17 := by omega
        have n18 : ¬ x.1 = 18 := by omega
        rw [if_neg n17, if_neg n17, if_pos (show x.1 ≤ 23 ∧ (18 : Int) ≤ 23 from ⟨hx.2, by omega⟩), if_neg n18, if_neg n18, t_measure (d := d) hS hr hx]
        simp only [bI]
        rw [if_pos a1, a3, if_pos i2, e.2.1]
        by_cases s0 : x.2.1 = 60
        · rw [if_pos s0, if_pos s0, if_pos a1, a4, if_pos i3, e.2.2, dec1]
        · rw [if_neg s0, if_neg s0, if_pos a1, if_pos i2]
          by_cases s1 : x.2.1 = 61
          · rw [if_pos s1, if_pos s1, if_pos a1, a4, if_pos i3, e.2.2, dec1]
          · rw [if_neg s1, if_neg s1, if_pos a1, a4, if_pos i3, e.2.2, dec1]
/-- where the weighing stands -/
def EvI (w : sW) (q a r : Int) (A : Rm) (k l : Int) (x : Sp) (s : List Bool) : Prop := (StI w q A ∧ SeSh w a ∧ isR A r) ∧ gv w a 4 = l ∧ (0 ≤ k ∧ k < l ∧ l ≤ 40) ∧ ((s.length : Int) ≤ k) ∧ (gv w (a + 1) k = x.1 ∧ gv w (a + 2) k = x.2.1 ∧ gv w (a + 3) k = x.2.2) ∧ (1 ≤ x.1 ∧ x.1 ≤ 23) ∧ StkI w (a + 4) s
abbrev evG (d : Nat) (q a r : Int) (k : Int) (w w1 : sW) (s s1 : List Bool) : Prop := ∀ res, Rn (Ex pro (d + 5)) mX7_isTrueOf (5, [some (rV a), some (rV q), some (iV r), some (iV (s1.length : Int)), some (iV (k + 1)), none], [], w1) res → Rn (Ex pro (d + 5)) mX7_isTrueOf (5, [some (rV a), some (rV q), some (iV r), some (iV (s.length : Int)), some (iV k), none], [], w) res
variable {k l : Int} {x : Sp} {s : List Bool}
theorem l_sPush (h : EvI w q a r A k l x s) (h14 : x.1 = 14 → (s.length : Int) < 1) (h13 : x.1 = 13 ∨ x.1 = 12 → (s.length : Int) < 2) : ∃ w1, evG d q a r k w w1 s (plF x A r :: s) ∧ StkI w1 (a + 4) (plF x A r :: s) ∧ Mf w w1 (fun r _ => r = a + 4) := by
  obtain ⟨⟨hS, hE, hr⟩, h4, hk, hs, e, hx, hT⟩ := h
  have pl := t_isPlain (d := d + 1) hS hE hr (k := k) (by omega) e hx
  obtain ⟨⟨a1, a2, a3, a4, a5⟩, b1, b2, b3, b4, b5⟩ := hE
  have i1 : (24 ≤ kd w (a + 1) ∧ kd w (a + 1) ≤ 27) ∧ 0 ≤ k ∧ k < ln w (a + 1) := ⟨by omega, by omega, by omega⟩
  have b01 : bI1 (plF x A r) = 0 ∨ bI1 (plF x A r) = 1 := by cases plF x A r <;> simp
  refine ⟨sv w (a + 4) (s.length : Int) (bI1 (plF x A r)), fun res g => ?_, hT.put, (Mf.svI w (a + 4) _ _).mono (fun r j z => z.1)⟩
  have hl : ((plF x A r :: s).length : Int) = (s.length : Int) + 1 := by rw [List.length_cons]; omega
  rw [hl] at g
  have ist : ((kd w (a + 4) = 21 ∧ -128 ≤ bI1 (plF x A r) ∧ bI1 (plF x A r) < 128) ∨ (kd w (a + 4) = 23 ∧ (bI1 (plF x A r) = 0 ∨ bI1 (plF x A r) = 1))) ∧ 0 ≤ (s.length : Int) ∧ (s.length : Int) < ln w (a + 4) := ⟨Or.inr ⟨b4.1, b01⟩, by omega, by omega⟩
  have g122 : Rn (Ex pro (d + 5)) mX7_isTrueOf (122, [some (rV a), some (rV q), some (iV r), some (iV (s.length : Int)), some (iV k), some (rV x.1)], [], w) res := by
    refine Rn.cut ?_ g
    rw [eX7_isTrueOf_122, if_pos (by omega)]
    by_cases c : x.1 = 12
    · rw [if_pos c, if_pos (h13 (Or.inr c)), if_pos a1, if_pos a1, pl]
      simp only [bI]
      rw [a5, if_pos ist, wl_eq, w32_eq (by omega) (by omega), w32_eq (by omega) (by omega)]
    · rw [if_neg c, if_pos a1, if_pos a1, pl]
      simp only [bI]
      rw [a5, if_pos ist, wl_eq, w32_eq (by omega) (by omega), w32_eq (by omega) (by omega)]
  refine Rn.cut ?_ g122
  rw [eX7_isTrueOf_5, if_pos a1, h4, if_pos hk.2.1, if_pos (by omega), if_pos a1, a2, if_pos i1, e.1, if_pos (by omega)]
  by_cases c14 : x.1 = 14
  · rw [if_pos c14, if_pos (h14 c14), if_pos (by omega), if_neg (by omega)]
  · rw [if_neg c14, if_pos (by omega)]
    by_cases c13 : x.1 = 13
    · rw [if_pos c13, if_pos (h13 (Or.inl c13))]
    · rw [if_neg c13]
theorem l_sNot {b : Bool} (h : EvI w q a r A k l x (b :: s)) (h14 : x.1 = 14) : ∃ w1, evG d q a r k w w1 (b :: s) ((!b) :: s) ∧ StkI w1 (a + 4) ((!b) :: s) ∧ Mf w w1 (fun r _ => r = a + 4) := by
  obtain ⟨⟨hS, hE, hr⟩, h4, hk, hs, e, hx, hT⟩ := h
  obtain ⟨⟨a1, a2, a3, a4, a5⟩, b1, b2, b3, b4, b5⟩ := hE
  have i1 : (24 ≤ kd w (a + 1) ∧ kd w (a + 1) ≤ 27) ∧ 0 ≤ k ∧ k < ln w (a + 1) := ⟨by omega, by omega, by omega⟩
  have hl : ((b :: s).length : Int) = (s.length : Int) + 1 := by rw [List.length_cons]; omega
  have hl' : (((!b) :: s).length : Int) = (s.length : Int) + 1 := by rw [List.length_cons]; omega
  refine ⟨sv w (a + 4) (s.length : Int) (bI1 (!b)), fun res g => ?_, hT.2.put, (Mf.svI w (a + 4) _ _).mono (fun r j z => z.1)⟩
  rw [hl'] at g
  rw [hl]
  have ild : (kd w (a + 4) = 21 ∨ kd w (a + 4) = 23) ∧ 0 ≤ (s.length : Int) ∧ (s.length : Int) < ln w (a + 4) := ⟨Or.inr b4.1, by omega, by omega⟩
  refine Rn.cut ?_ g
  rw [eX7_isTrueOf_5, if_pos a1, h4, if_pos hk.2.1, if_pos (by omega), if_pos a1, a2, if_pos i1, e.1, if_pos (by omega), if_pos h14, if_neg (by omega), if_pos a1, if_pos a1, a5, w32_eq (x := (s.length : Int) + 1 - 1) (by omega) (by omega), show (s.length : Int) + 1 - 1 = s.length by omega, if_pos ild, hT.1]
  cases b with
  | false => rw [if_pos (by simp), if_pos ⟨Or.inr ⟨b4.1, by simp⟩, ild.2⟩, wl_eq, w32_eq (by omega) (by omega)]; rfl
  | true => rw [if_neg (by simp), if_pos ⟨Or.inr ⟨b4.1, by simp⟩, ild.2⟩, wl_eq, w32_eq (by omega) (by omega)]; rfl
theorem l_sAnd {b1' b2' : Bool} (h : EvI w q a r A k l x (b1' :: b2' :: s)) (h13 : x.1 = 13) : ∃ w1, evG d q a r k w w1 (b1' :: b2' :: s) ((b2' && b1') :: s) ∧ StkI w1 (a + 4) ((b2' && b1') :: s) ∧ Mf w w1 (fun r _ => r = a + 4) := by
  obtain ⟨⟨hS, hE, hr⟩, h4, hk, hs, e, hx, hT⟩ := h
  obtain ⟨⟨a1, a2, a3, a4, a5⟩, b1, b2, b3, b4, b5⟩ := hE
  have i1 : (24 ≤ kd w (a + 1) ∧ kd w (a + 1) ≤ 27) ∧ 0 ≤ k ∧ k < ln w (a + 1) := ⟨by omega, by omega, by omega⟩
  have hl : ((b1' :: b2' :: s).length : Int) = (s.length : Int) + 2 := by rw [List.length_cons, List.length_cons]; omega
  have hl' : (((b2' && b1') :: s).length : Int) = (s.length : Int) + 1 := by rw [List.length_cons]; omega
  have t1 := hT.1
  rw [show ((b2' :: s).length : Int) = (s.length : Int) + 1 by rw [List.length_cons]; omega] at t1
  refine ⟨sv w (a + 4) (s.length : Int) (bI1 (b2' && b1')), fun res g => ?_, hT.2.2.put, (Mf.svI w (a + 4) _ _).mono (fun r j z => z.1)⟩
  rw [hl'] at g
  rw [hl]
  have ild : (kd w (a + 4) = 21 ∨ kd w (a + 4) = 23) ∧ 0 ≤ (s.length : Int) ∧ (s.length : Int) < ln w (a + 4) := ⟨Or.inr b4.1, by omega, by omega⟩
  have ild1 : (kd w (a + 4) = 21 ∨ kd w (a + 4) = 23) ∧ 0 ≤ (s.length : Int) + 1 ∧ (s.length : Int) + 1 < ln w (a + 4) := ⟨Or.inr b4.1, by omega, by omega⟩
  have w1 : w32 ((s.length : Int) + 2 + (-1)) = (s.length : Int) + 1 := by rw [w32_eq (by omega) (by omega)]; omega
  have w2 : w32 ((s.length : Int) + 1 - 1) = (s.length : Int) := by rw [w32_eq (by omega) (by omega)]; omega
  have w3 : w32 (k + 1) = k + 1 := w32_eq (by omega) (by omega)
  refine Rn.cut ?_ g
  rw [eX7_isTrueOf_5, if_pos a1, h4, if_pos hk.2.1, if_pos (by omega), if_pos a1, a2, if_pos i1, e.1, if_pos (by omega), if_neg (by omega), if_pos (by omega), if_pos h13, if_neg (by omega), if_pos a1, if_pos a1, a5, w1, w2, w3, if_pos ild, hT.2.1]
  cases b2' with
  | false => rw [if_pos (by simp), if_pos ⟨Or.inr ⟨b4.1, by simp⟩, ild.2⟩, wl_eq]; rfl
  | true =>
    rw [if_neg (by simp), if_pos a1, if_pos ild1, t1]
    cases b1' with
    | false => rw [if_pos (by simp), if_pos ⟨Or.inr ⟨b4.1, by simp⟩, ild.2⟩, wl_eq]; rfl
    | true => rw [if_neg (by simp), if_pos ⟨Or.inr ⟨b4.1, by simp⟩, ild.2⟩, wl_eq]; rfl
theorem l_sOr {b1' b2' : Bool} (h : EvI w q a r A k l x (b1' :: b2' :: s)) (h12 : x.1 = 12) : ∃ w1, evG d q a r k w w1 (b1' :: b2' :: s) ((b2' || b1') :: s) ∧ StkI w1 (a + 4) ((b2' || b1') :: s) ∧ Mf w w1 (fun r _ => r = a + 4) := by
  obtain ⟨⟨hS, hE, hr⟩, h4, hk, hs, e, hx, hT⟩ := h
  obtain ⟨⟨a1, a2, a3, a4, a5⟩, b1, b2, b3, b4, b5⟩ := hE
  have i1 : (24 ≤ kd w (a + 1) ∧ kd w (a + 1) ≤ 27) ∧ 0 ≤ k ∧ k < ln w (a + 1) := ⟨by omega, by omega, by omega⟩
  have hl : ((b1' :: b2' :: s).length : Int) = (s.length : Int) + 2 := by rw [List.length_cons, List.length_cons]; omega
  have hl' : (((b2' || b1') :: s).length : Int) = (s.length : Int) + 1 := by rw [List.length_cons]; omega
  have t1 := hT.1
  rw [show ((b2' :: s).length : Int) = (s.length : Int) + 1 by rw [List.length_cons]; omega] at t1
  refine ⟨sv w (a + 4) (s.length : Int) (bI1 (b2' || b1')), fun res g => ?_, hT.2.2.put, (Mf.svI w (a + 4) _ _).mono (fun r j z => z.1)⟩
  rw [hl'] at g
  rw [hl]
  have ild : (kd w (a + 4) = 21 ∨ kd w (a + 4) = 23) ∧ 0 ≤ (s.length : Int) ∧ (s.length : Int) < ln w (a + 4) := ⟨Or.inr b4.1, by omega, by omega⟩
  have ild1 : (kd w (a + 4) = 21 ∨ kd w (a + 4) = 23) ∧ 0 ≤ (s.length : Int) + 1 ∧ (s.length : Int) + 1 < ln w (a + 4) := ⟨Or.inr b4.1, by omega, by omega⟩
  have w1 : w32 ((s.length : Int) + 2 + (-1)) = (s.length : Int) + 1 := by rw [w32_eq (by omega) (by omega)]; omega
  have w2 : w32 ((s.length : Int) + 1 - 1) = (s.length : Int) := by rw [w32_eq (by omega) (by omega)]; omega
  have w3 : w32 (k + 1) = k + 1 := w32_eq (by omega) (by omega)
  have g122 : Rn (Ex pro (d + 5)) mX7_isTrueOf (122, [some (rV a), some (rV q), some (iV r), some (iV ((s.length : Int) + 2)), some (iV k), some (rV x.1)], [], w) res := by
    refine Rn.cut ?_ g
    rw [eX7_isTrueOf_122, if_pos (by omega), if_pos h12, if_neg (by omega), if_pos a1, if_pos a1, a5, w1, w2, w3, if_pos ild, hT.2.1]
    cases b2' with
    | true => rw [if_neg (by simp), if_pos ⟨Or.inr ⟨b4.1, by simp⟩, ild.2⟩, wl_eq]; rfl
    | false =>
      rw [if_pos (by simp), if_pos a1, if_pos ild1, t1]
      cases b1' with
      | false => rw [if_pos (by simp), if_pos ⟨Or.inr ⟨b4.1, by simp⟩, ild.2⟩, wl_eq]; rfl
      | true => rw [if_neg (by simp), if_pos ⟨Or.inr ⟨b4.1, by simp⟩, ild.2⟩, wl_eq]; rfl
  refine Rn.cut ?_ g122
  rw [eX7_isTrueOf_5, if_pos a1, h4, if_pos hk.2.1, if_pos (by omega), if_pos a1, a2, if_pos i1, e.1, if_pos (by omega), if_neg (by omega), if_pos (by omega), if_neg (by omega)]
theorem l_sStep (h : EvI w q a r A k l x s) : ∃ w1, evG d q a r k w w1 s (ev1 A r x s) ∧ StkI w1 (a + 4) (ev1 A r x s) ∧ Mf w w1 (fun r _ => r = a + 4) := by
  rcases s with _ | ⟨b, _ | ⟨b', s⟩⟩
  · exact l_sPush h (fun _ => by simp) (fun _ => by simp)
  · by_cases c : x.1 = 14
    · rw [show ev1 A r x [b] = [!b] from if_pos c]
      exact l_sNot h c
    · rw [show ev1 A r x [b] = [plF x A r, b] from if_neg c]
      exact l_sPush h (fun z => absurd z c) (fun _ => by simp)
  · by_cases c : x.1 = 14
    · rw [show ev1 A r x (b :: b' :: s) = (!b) :: b' :: s from if_pos c]
      exact l_sNot h c
    · by_cases c3 : x.1 = 13
      · rw [show ev1 A r x (b :: b' :: s) = (b' && b) :: s from (if_neg c).trans (if_pos c3)]
        exact l_sAnd h c3
      · by_cases c2 : x.1 = 12
        · rw [show ev1 A r x (b :: b' :: s) = (b' || b) :: s from (if_neg c).trans ((if_neg c3).trans (if_pos c2))]
          exact l_sOr h c2
        · rw [show ev1 A r x (b :: b' :: s) = plF x A r :: b :: b' :: s from (if_neg c).trans ((if_neg c3).trans (if_neg c2))]
          exact l_sPush h (fun z => absurd z c) (fun z => by omega)
theorem ev1_len : ((ev1 A r x s).length : Int) ≤ (s.length : Int) + 1 := by
  rcases s with _ | ⟨b, _ | ⟨b', s⟩⟩
  · simp [ev1]
  · show (((if x.1 = 14 then [!b] else [plF x A r, b]) : List Bool).length : Int) ≤ _
    by_cases c : x.1 = 14
    · rw [if_pos c]; simp
    · rw [if_neg c]; simp
  · show (((if x.1 = 14 then (!b) :: b' :: s else if x.1 = 13 then (b' && b) :: s else if x.1 = 12 then (b' || b) :: s else plF x A r :: b :: b' :: s) : List Bool).length : Int) ≤ _
    by_cases c : x.1 = 14
    · rw [if_pos c]; simp only [List.length_cons]; omega
    · rw [if_neg c]
      by_cases c3 : x.1 = 13
      · rw [if_pos c3]; simp only [List.length_cons]; omega
      · rw [if_neg c3]
        by_cases c2 : x.1 = 12
        · rw [if_pos c2]; simp only [List.length_cons]; omega
        · rw [if_neg c2]; simp only [List.length_cons]; omega
theorem l_isTrue (ha : 70 ≤ a) (hq : q = 36 ∨ q = 53) (hr : isR A r) : ∀ (L : List Sp) (k : Int) (s : List Bool) (w : sW), StI w q A → SeSh w a → gv w a 4 = k + L.length → k + L.length ≤ 40 → 0 ≤ k → (s.length : Int) ≤ k → StL w a k L → StkI w (a + 4) s → ∃ w', Rn (Ex pro (d + 5)) mX7_isTrueOf (5, [some (rV a), some (rV q), some (iV r), some (iV (s.length : Int)), some (iV k), none], [], w) (some (iV (tpF (evS A r L s))), w') ∧ Mf w w' (fun r _ => r = a + 4)
  | [], k, s, w, hS, hE, h4, h40, hk, hs, hL, hT => by
    obtain ⟨⟨a1, a2, a3, a4, a5⟩, b1, b2, b3, b4, b5⟩ := hE
    refine ⟨w, Rn.ret ?_, Mf.refl _ _⟩
    rw [show k + (([] : List Sp).length : Int) = k by simp] at h4
    rw [eX7_isTrueOf_5, if_pos a1, h4, if_neg (by omega)]
    rcases s with _ | ⟨b, _ | ⟨b', s⟩⟩
    · rw [if_neg (by simp)]; rfl
    · have t1 : gv w (a + 4) 0 = bI1 b := hT.1
      rw [if_pos (by simp), if_pos a1, a5, if_pos ⟨Or.inr b4.1, by omega, by omega⟩, t1]
      cases b with
      | false => rw [if_pos (by simp)]; rfl
      | true => rw [if_neg (by simp)]; rfl
    · rw [if_neg (by simp; omega)]; rfl
  | x :: L, k, s, w, hS, hE, h4, h40, hk, hs, hL, hT => by
    have hl : ((x :: L).length : Int) = (L.length : Int) + 1 := by rw [List.length_cons]; omega
    rw [hl] at h4 h40
    obtain ⟨w1, g1, g2, g3⟩ := l_sStep (d := d) (w := w) (q := q) (a := a) (r := r) (A := A) (k := k) (l := k + (L.length + 1)) (x := x) (s := s) ⟨⟨hS, hE, hr⟩, h4, by omega, hs, hL.1, hL.2.1, hT⟩
    have el := ev1_len (A := A) (r := r) (x := x) (s := s)
    obtain ⟨w', e1, e2⟩ := l_isTrue ha hq hr L (k + 1) (ev1 A r x s) w1 (hS.mf g3 (fun r j r0 r1 => by omega)) (hE.mf g3 (fun j j0 j1 => by omega)) (by rw [g3.gvE (by omega), h4]; omega) (by omega) (by omega) (by omega) (StL.mf g3 L (k + 1) hL.2.2 (fun r j r0 r1 j0 j1 => by omega)) g2
    exact ⟨w', g1 _ e1, g3.tr e2⟩
/-- isTrueOf -/
theorem t_isTrue {c : Int} {L : List Sp} {f : Sb} (ha : 70 ≤ a) (hq : q = 36 ∨ q = 53) (hS : StI w q A) (hE : SeR w a c L) (hr : isR A r) (hD : Dn A.1 [] L f) : ∃ w', Ex pro (d + 6) 72 w [rV a, rV q, iV r] = some (some (iV (bI1 (f A r))), w') ∧ Mf w w' (fun r _ => r = a + 4) := by
  obtain ⟨w', g1, g2⟩ := l_isTrue (d := d) ha hq hr L 0 [] w hS hE.1 (by rw [hE.2.1]; omega) (by have := hE.2.2.1; omega) (by omega) (by simp) hE.2.2.2.2.2 trivial
  rw [hD A r [] rfl hr] at g1
  refine ⟨w', xX7_isTrueOf (Rn.cut ?_ g1), g2⟩
  rw [eX7_isTrueOf_0]
  rfl
end SV
