/-! ===== the reference's deeds: refusals, and rows put into a room ===== -/
/-- two rows are alike where it counts -/
def RwE (R R' : Rw) : Prop := R.1 = R'.1 ∧ R.2.2.1 = R'.2.2.1 ∧ (∀ i, 0 ≤ i → i < R.1 → R.2.1 i = R'.2.1 i) ∧ ∀ j, 0 ≤ j → j < R.2.2.1 → R.2.2.2 j = R'.2.2.2 j
theorem RwE.refl (R : Rw) : RwE R R := ⟨rfl, rfl, fun _ _ _ => rfl, fun _ _ _ => rfl⟩
theorem LvOk.cg {n k low : Int} {l l' : Int → Int} (h : LvOk n k l low) (e : ∀ j, 0 ≤ j → j < k → l j = l' j) : LvOk n k l' low := by
  obtain ⟨h1, h2, h3, h4, h5⟩ := h
  refine ⟨h1, h2, h3, ?_, fun j j0 j1 => ?_⟩
  · rw [← h4]
    exact (psm_congr k.toNat 0 (fun x x0 x1 => e x x0 (by omega))).symm
  · rw [← e j j0 j1]
    exact h5 j j0 j1
theorem MI.cg {X : Int → Int} {r low : Int} {R R' : Rw} (h : MI X r R low) (e : RwE R R') : MI X r R' low := by
  obtain ⟨n, b, k, l⟩ := R
  obtain ⟨n', b', k', l'⟩ := R'
  obtain ⟨e1, e2, e3, e4⟩ := e
  simp only at e1 e2 e3 e4
  subst e1 e2
  obtain ⟨⟨h1, h2, h3, h4, h5⟩, h6, h7⟩ := h
  refine ⟨⟨h1, h2, fun i i0 i1 => ?_, fun j j0 j1 => ?_, h5⟩, h6.cg e4, fun i i0 i1 => ?_⟩
  · rw [h3 i i0 i1]; exact e3 i i0 i1
  · rw [h4 j j0 j1]; exact e4 j j0 j1
  · have := h7 i i0 i1
    simp only at this ⊢
    rw [← e3 i i0 i1]
    exact this
theorem MI.fr {X X' : Int → Int} {r low : Int} {R : Rw} (h : MI X r R low) (hf : ∀ x, rowC r x → X' x = X x) : MI X' r R low := by
  obtain ⟨⟨h1, h2, h3, h4, h5⟩, h6, h7⟩ := h
  have k := h6.k
  have n := h6.2.1
  have k0 := h6.2.2.1
  refine ⟨⟨?_, ?_, fun i i0 i1 => ?_, fun j j0 j1 => ?_, fun j j0 j1 => ?_⟩, h6, h7⟩
  · rw [hf _ (by unfold rowC; omega)]; exact h1
  · rw [hf _ (by unfold rowC; omega)]; exact h2
  · rw [hf _ (by unfold rowC; omega)]; exact h3 i i0 i1
  · rw [hf _ (by unfold rowC; omega)]; exact h4 j j0 j1
  · rw [hf _ (by unfold rowC; omega)]; exact h5 j j0 j1
theorem MX.row {X X' : Int → Int} {A : Rm} {r : Int} {R : Rw} (h : MX X A) (hr : isR A r) (g : MI X' r R A.2.1) (hf : ∀ x, ¬ rowC r x → X' x = X x) : MX X' (setRow A r R) := by
  obtain ⟨h1, h2, h3, h4, h5, h6, h7, h8⟩ := h
  have r4 : 0 ≤ r ∧ r < 4 := by unfold isR at hr; omega
  refine ⟨?_, ?_, h3, h4, fun x x0 x1 => ?_, ?_, h7, fun i i0 i1 => ?_⟩
  · rw [hf _ (by unfold rowC; omega)]; exact h1
  · rw [hf _ (by unfold rowC; omega)]; exact h2
  · by_cases c : x = r
    · subst c
      simp only [setRow, if_true]
      exact g
    · simp only [setRow]
      rw [if_neg c]
      have x1' : x < A.1 := x1
      exact (h5 x x0 x1).fr (fun y hy => hf y (by unfold rowC at *; omega))
  · rw [hf _ (by unfold rowC; omega)]; exact h6
  · have i1' : i < A.2.2.2.2.1 := i1
    rw [hf _ (by unfold rowC; omega)]; exact h8 i i0 i1
theorem MX.let {X X' : Int → Int} {A : Rm} {T : Int × (Int → Int)} (h : MX X A) (h0 : 0 ≤ T.1 ∧ T.1 ≤ 200) (h1 : X' 2615 = T.1) (h2 : ∀ i, 0 ≤ i → i < T.1 → X' (2616 + i) = T.2 i ∧ 0 ≤ T.2 i ∧ T.2 i < 8) (hf : ∀ x, x < 2615 ∨ 2816 ≤ x → X' x = X x) : MX X' (setLet A T) := by
  obtain ⟨g1, g2, g3, g4, g5, g6, g7, g8⟩ := h
  refine ⟨?_, ?_, g3, g4, fun x x0 x1 => ?_, h1, h0, h2⟩
  · rw [hf _ (by omega)]; exact g1
  · rw [hf _ (by omega)]; exact g2
  · have x1' : x < A.1 := x1
    exact (g5 x x0 x1).fr (fun y hy => hf y (by unfold rowC at hy; omega))
/-- the same room, where it counts -/
def RmE (A B : Rm) : Prop := A.1 = B.1 ∧ A.2.1 = B.2.1 ∧ (∀ r, 0 ≤ r → r < A.1 → RwE (A.2.2.2.1 r) (B.2.2.2.1 r)) ∧ A.2.2.2.2.1 = B.2.2.2.2.1 ∧ ∀ i, 0 ≤ i → i < A.2.2.2.2.1 → A.2.2.2.2.2 i = B.2.2.2.2.2 i
theorem MX.cg {X : Int → Int} {A B : Rm} (h : MX X A) (e : RmE A B) : MX X B := by
  obtain ⟨a1, a2, a3, a4, a5, a6⟩ := A
  obtain ⟨b1, b2, b3, b4, b5, b6⟩ := B
  obtain ⟨e1, e2, e3, e4, e5⟩ := e
  simp only at e1 e2 e3 e4 e5
  subst e1 e2 e4
  obtain ⟨g1, g2, g3, g4, g5, g6, g7, g8⟩ := h
  refine ⟨g1, g2, g3, g4, fun x x0 x1 => (g5 x x0 x1).cg (e3 x x0 x1), g6, g7, fun i i0 i1 => ?_⟩
  have := g8 i i0 i1
  simp only at this ⊢
  rw [← e5 i i0 i1]
  exact this
/-- the class's words for the reference's deed -/
abbrev cA (e r i : Int) : Int := if e = 6 ∨ e = 7 then i else r
abbrev cB (e i n : Int) : Int := if e = 4 ∨ e = 6 ∨ e = 7 then n else i
abbrev cC (e n : Int) : Int := if e = 4 ∨ e = 6 ∨ e = 7 then 0 else n
def whyM (A : Rm) (e r i n : Int) : Int := whyN A (e + 4) (cA e r i) (cB e i n) (cC e n)
def actM (A : Rm) (e r i n : Int) : Rm := actF A (e + 4) (cA e r i) (cB e i n) (cC e n)
section ML
variable {d : Nat} {w : sW} {m : Int} {A : Rm}
theorem o_areThere {i n o : Int} (ho : 0 ≤ o ∧ o ≤ 600) (hn : 0 ≤ n) : Ex pro (d + 1) 233 w [iV i, iV n, iV o] = some (some (iV (if 0 ≤ i ∧ 0 ≤ n ∧ i + n ≤ o then 1 else 0)), w) := by
  refine xX12_areThere (Rn.ret ?_)
  rw [eX12_areThere_0]
  by_cases c : i < 0
  · rw [if_pos c, if_neg (by omega)]
  · rw [if_neg c]
    by_cases c2 : o < n
    · rw [if_pos c2, if_neg (by omega)]
    · rw [if_neg c2, w32_eq (by omega) (by omega)]
      by_cases c3 : o - n < i
      · rw [if_pos c3, if_neg (by omega)]
      · rw [if_neg c3, if_pos (by omega)]
def whyP (A : Rm) (r i c : Int) : Int := if 0 ≤ i ∧ i ≤ nA A r then (if 600 < nA A r + c then 2 else 0) else 1
theorem MoI.whyPut (h : MoI w m A) {r i c : Int} (hr : isR A r) (hc : 0 ≤ c ∧ c ≤ 1000) : Ex pro (d + 2) 234 w [rV m, iV r, iV i, iV c] = some (some (iV (whyP A r i c)), w) := by
  have n6 := h.n6 hr
  refine xX12_whyPut (Rn.ret ?_)
  rw [eX12_whyPut_0, if_pos h.1.1, h.size hr]
  simp only [bI, ite10]
  rw [o_isIn]
  simp only [ite10]
  unfold whyP
  by_cases z : 0 ≤ i ∧ i ≤ nA A r
  · rw [if_pos z, if_pos h.1.1, h.size hr, if_pos z]
    simp only [ite10]
    rw [w32_eq (by omega) (by omega)]
    split <;> rfl
  · rw [if_neg z, if_neg z]
/-- what a deed is asked with -/
def dOk (A : Rm) (e r i n : Int) : Prop := (0 ≤ e ∧ e ≤ 7) ∧ (e < 6 → isR A r) ∧ (e = 4 ∨ e = 5 → isR A n ∧ r ≠ n) ∧ (e = 0 ∨ e = 1 → n = 0 ∨ n = 1) ∧ (e = 2 ∨ e = 3 ∨ e = 7 → 1 ≤ n ∧ n ≤ 600) ∧ (e = 6 → 0 ≤ n ∧ n < 8) ∧ in32 i
theorem whyM_0 {A : Rm} {r i n : Int} (hr : isR A r) : whyM A 0 r i n = if 0 ≤ i ∧ i ≤ nA A r then (if nA A r < 600 then 0 else 2) else 1 := by simp [whyM, whyN, cA, cB, cC, hr]
theorem whyM_1 {A : Rm} {r i n : Int} (hr : isR A r) : whyM A 1 r i n = if 0 ≤ i ∧ i < nA A r then (if bA A r i = n then 2 else 0) else 1 := by simp [whyM, whyN, cA, cB, cC, hr]
theorem whyM_2 {A : Rm} {r i n : Int} (hr : isR A r) : whyM A 2 r i n = if 0 ≤ i ∧ 0 ≤ n ∧ i + n ≤ nA A r then 0 else 1 := by simp [whyM, whyN, cA, cB, cC, hr]
theorem whyM_3 {A : Rm} {r i n : Int} (hr : isR A r) : whyM A 3 r i n = if 0 ≤ i ∧ 0 ≤ n ∧ i + n ≤ nA A r then 0 else 1 := by simp [whyM, whyN, cA, cB, cC, hr]
theorem whyM_4 {A : Rm} {r i n : Int} (hr : isR A r) : whyM A 4 r i n = whyMv A n 0 r := by simp [whyM, whyN, cA, cB, cC, hr]
theorem whyM_5 {A : Rm} {r i n : Int} (hr : isR A r) : whyM A 5 r i n = whyMv A r i n := by simp [whyM, whyN, cA, cB, cC, hr]
theorem whyM_6 {A : Rm} {r i n : Int} : whyM A 6 r i n = if i < 0 ∨ nT A < i then 1 else if nT A < 200 then 0 else 2 := by simp [whyM, whyN, cA, cB, cC]
theorem whyM_7 {A : Rm} {r i n : Int} : whyM A 7 r i n = if 0 ≤ i ∧ 0 ≤ n ∧ i + n ≤ nT A then 0 else 1 := by simp [whyM, whyN, cA, cB, cC]
theorem actM_0 (A : Rm) (r i n : Int) : actM A 0 r i n = setRow A r (insR (A.2.2.2.1 r) i n A.2.1) := by simp [actM, actF, cA, cB, cC]
theorem actM_1 (A : Rm) (r i n : Int) : actM A 1 r i n = setRow A r (turR (A.2.2.2.1 r) i 1) := by simp [actM, actF, cA, cB, cC]
theorem actM_2 (A : Rm) (r i n : Int) : actM A 2 r i n = setRow A r (remR (A.2.2.2.1 r) i n A.2.1) := by simp [actM, actF, cA, cB, cC]
theorem actM_3 (A : Rm) (r i n : Int) : actM A 3 r i n = setRow A r (turR (A.2.2.2.1 r) i n) := by simp [actM, actF, cA, cB, cC]
theorem actM_4 (A : Rm) (r i n : Int) : actM A 4 r i n = setRow (setRow A r (appR (bA A n) A.2.1 0 (nA A n).toNat (A.2.2.2.1 r))) n (clrR (A.2.2.2.1 n)) := by simp [actM, actF, cA, cB, cC]
theorem actM_5 (A : Rm) (r i n : Int) : actM A 5 r i n = setRow (setRow A n (appR (bA A r) A.2.1 i (nA A r - i).toNat (A.2.2.2.1 n))) r (remR (A.2.2.2.1 r) i (nA A r - i) A.2.1) := by simp [actM, actF, cA, cB, cC]
theorem actM_6 (A : Rm) (r i n : Int) : actM A 6 r i n = setLet A (insT A.2.2.2.2 i n) := by simp [actM, actF, cA, cB, cC]
theorem actM_7 (A : Rm) (r i n : Int) : actM A 7 r i n = setLet A (remT A.2.2.2.2 i n) := by simp [actM, actF, cA, cB, cC]
theorem o_refusal (h : MoI w m A) {e r i n : Int} (g : dOk A e r i n) : Ex pro (d + 3) 235 w [rV m, iV e, iV r, iV i, iV n] = some (some (iV (whyM A e r i n)), w) := by
  obtain ⟨g1, g2, g3, g4, g5, g6, g7⟩ := g
  have k := h.1.1
  have l2 := h.l2
  unfold in32 at g7
  have he : e = 0 ∨ e = 1 ∨ e = 2 ∨ e = 3 ∨ e = 4 ∨ e = 5 ∨ e = 6 ∨ e = 7 := by omega
  refine xX12_refusal (Rn.ret ?_)
  rw [eX12_refusal_0]
  rcases he with c | c | c | c | c | c | c | c <;> subst c
  · have hr := g2 (by omega)
    have n6 := h.n6 hr
    rw [if_pos rfl, if_pos k, h.whyPut hr (by omega), whyM_0 hr]
    simp only [bI]
    unfold whyP
    by_cases z : 0 ≤ i ∧ i ≤ nA A r
    · rw [if_pos z, if_pos z]
      by_cases y : nA A r < 600
      · rw [if_pos y, if_neg (by omega)]
      · rw [if_neg y, if_pos (by omega)]
    · rw [if_neg z, if_neg z]
  · have hr := g2 (by omega)
    rw [if_neg (by decide), if_pos rfl, if_pos k, h.there hr, whyM_1 hr]
    simp only [bI, ite10]
    by_cases z : 0 ≤ i ∧ i < nA A r
    · rw [if_pos z, if_pos k, h.bit hr z.1 z.2, if_pos z]
      simp only []
      by_cases y : bA A r i = n
      · rw [if_pos y, if_pos y]
      · rw [if_neg y, if_neg y]
    · rw [if_neg z, if_neg z]
  · have hr := g2 (by omega)
    have n6 := h.n6 hr
    have nn := g5 (by omega)
    rw [if_neg (by decide), if_neg (by decide), if_pos rfl, if_pos k, h.size hr, whyM_2 hr]
    simp only [bI]
    rw [o_areThere n6 (by omega)]
    simp only [ite10]
    split <;> rfl
  · have hr := g2 (by omega)
    have n6 := h.n6 hr
    have nn := g5 (by omega)
    rw [if_neg (by decide), if_neg (by decide), if_neg (by decide), if_pos rfl, if_pos k, h.size hr, whyM_3 hr]
    simp only [bI]
    rw [o_areThere n6 (by omega)]
    simp only [ite10]
    split <;> rfl
  · have hr := g2 (by omega)
    have hn := (g3 (by omega)).1
    have n6 := h.n6 hr
    have n6' := h.n6 hn
    rw [if_neg (by decide), if_neg (by decide), if_neg (by decide), if_neg (by decide), if_pos rfl, if_pos k, h.size hn, whyM_4 hr]
    simp only [bI]
    unfold whyMv
    by_cases z : nA A n = 0
    · rw [if_pos z, if_neg (fun y => by have := y.2.2.2; change 0 < nA A n at this; omega)]
    · rw [if_neg z, if_pos k, h.size hr]
      simp only []
      rw [if_pos k, h.size hn]
      simp only []
      rw [if_pos (show isR A n ∧ isR A r ∧ (0 : Int) ≤ 0 ∧ 0 < (A.2.2.2.1 n).1 from ⟨hn, hr, by omega, by show 0 < nA A n; omega⟩), w32_eq (by omega) (by omega)]
      by_cases y : 600 < nA A r + nA A n
      · rw [if_pos y, if_pos (by show 600 < nA A r + nA A n - 0; omega)]
      · rw [if_neg y, if_neg (by show ¬ 600 < nA A r + nA A n - 0; omega)]
  · have hr := g2 (by omega)
    have hn := (g3 (by omega)).1
    have n6 := h.n6 hr
    have n6' := h.n6 hn
    rw [if_neg (by decide), if_neg (by decide), if_neg (by decide), if_neg (by decide), if_neg (by decide), if_pos rfl, if_pos k, h.there hr, whyM_5 hr]
    simp only [bI, ite10]
    unfold whyMv
    by_cases z : 0 ≤ i ∧ i < nA A r
    · rw [if_pos z, if_pos k, h.size hn]
      simp only []
      rw [if_pos k, h.size hr]
      simp only []
      rw [if_pos (show isR A r ∧ isR A n ∧ 0 ≤ i ∧ i < (A.2.2.2.1 r).1 from ⟨hr, hn, z⟩), w32_eq (x := nA A n + nA A r) (by omega) (by omega), w32_eq (by omega) (by omega)]
      split <;> rfl
    · rw [if_neg z, if_neg (fun y => z y.2.2)]
  · rw [if_neg (by decide), if_neg (by decide), if_neg (by decide), if_neg (by decide), if_neg (by decide), if_neg (by decide), if_pos rfl, if_pos k, if_pos (h.1.g (by omega) (by omega)), h.1.2.1, h.ln, o_isIn, whyM_6]
    simp only [bI, ite10]
    have hg := h.1.g (j := 2615) (by omega) (by omega)
    rw [h.1.2.1] at hg
    by_cases z : 0 ≤ i ∧ i ≤ nT A
    · rw [if_pos z, if_pos k, h.1.2.1, if_pos hg, h.ln, if_neg (show ¬ (i < 0 ∨ nT A < i) by omega)]
      by_cases y : nT A < 200
      · rw [if_pos y, if_neg (by omega)]
      · rw [if_neg y, if_pos (by omega)]
    · rw [if_neg z, if_pos (by omega)]
  · have nn := g5 (by omega)
    rw [if_neg (by decide), if_neg (by decide), if_neg (by decide), if_neg (by decide), if_neg (by decide), if_neg (by decide), if_neg (by decide), if_pos k, if_pos (h.1.g (by omega) (by omega)), h.1.2.1, h.ln, o_areThere (by omega) (by omega), whyM_7]
    simp only [bI, ite10]
    split <;> rfl
end ML
