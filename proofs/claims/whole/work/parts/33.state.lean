/-! ===== rooms of the class ===== -/
/-- a room: how many rows, the low bound, the names, the rows, the letters -/
abbrev Rm := Int × Int × (Int → Int) × (Int → Rw) × (Int × (Int → Int))
def StSh (w : sW) (b : Int) : Prop := (kd w b = 8 ∧ gv w b 0 = b + 1 ∧ gv w b 1 = b + 2 ∧ gv w b 2 = b + 3) ∧ (kd w (b + 1) = 24 ∧ ln w (b + 1) = 4) ∧ (∀ r, 0 ≤ r → r < 4 → gv w (b + 1) r = b + 5 + 3 * r) ∧ (kd w (b + 2) = 22 ∧ ln w (b + 2) = 4) ∧ ScSh w (b + 3) ∧ (∀ r, 0 ≤ r → r < 4 → RowSh w (b + 5 + 3 * r)) ∧ 32 ≤ b
/-- the room A stands at b .. b + 16 -/
def StI (w : sW) (b : Int) (A : Rm) : Prop := StSh w b ∧ (gv w b 3 = A.1 ∧ gv w b 4 = A.2.1) ∧ (0 ≤ A.1 ∧ A.1 ≤ 4) ∧ (4 ≤ A.2.1 ∧ A.2.1 ≤ 32) ∧ (∀ r, 0 ≤ r → r < A.1 → gv w (b + 2) r = A.2.2.1 r) ∧ (∀ r, 0 ≤ r → r < A.1 → RowI w (b + 5 + 3 * r) (A.2.2.2.1 r) A.2.1) ∧ ScI w (b + 3) A.2.2.2.2
theorem StSh.fr {w w' : sW} {b lo hi : Int} (h : StSh w b) (f : Fr w w' lo hi) (o : b + 16 < lo ∨ hi < b) : StSh w' b := by
  obtain ⟨h1, h2, h3, h4, h5, h6, h7⟩ := h
  refine ⟨?_, ?_, fun r x y => ?_, ?_, h5.fr f (by omega), fun r x y => (h6 r x y).fr f (by omega), h7⟩
  · rw [f.kdE, f.2.2 _ _ (by omega), f.2.2 _ _ (by omega), f.2.2 _ _ (by omega)]; exact h1
  · rw [f.kdE, f.lnE]; exact h2
  · rw [f.2.2 _ _ (by omega)]; exact h3 r x y
  · rw [f.kdE, f.lnE]; exact h4
theorem StI.fr {w w' : sW} {b lo hi : Int} {A : Rm} (h : StI w b A) (f : Fr w w' lo hi) (o : b + 16 < lo ∨ hi < b) : StI w' b A := by
  obtain ⟨h1, h2, h3, h4, h5, h6, h7⟩ := h
  refine ⟨h1.fr f o, ?_, h3, h4, fun r x y => ?_, fun r x y => (h6 r x y).fr f (by omega), h7.fr f (by omega)⟩
  · rw [f.2.2 _ _ (by omega), f.2.2 _ _ (by omega)]; exact h2
  · rw [f.2.2 _ _ (by omega)]; exact h5 r x y
/-- one row written: the shape stays -/
theorem StSh.rowfr {w w' : sW} {b r : Int} (h : StSh w b) (f : Fr w w' (b + 5 + 3 * r) (b + 5 + 3 * r + 2)) (hr : 0 ≤ r ∧ r < 4) (g : RowSh w' (b + 5 + 3 * r)) : StSh w' b := by
  obtain ⟨h1, h2, h3, h4, h5, h6, h7⟩ := h
  refine ⟨?_, ?_, fun r' x y => ?_, ?_, h5.fr f (by omega), fun r' x y => ?_, h7⟩
  · rw [f.kdE, f.2.2 _ _ (by omega), f.2.2 _ _ (by omega), f.2.2 _ _ (by omega)]; exact h1
  · rw [f.kdE, f.lnE]; exact h2
  · rw [f.2.2 _ _ (by omega)]; exact h3 r' x y
  · rw [f.kdE, f.lnE]; exact h4
  · by_cases z : r' = r
    · rw [z]; exact g
    · exact (h6 r' x y).fr f (by omega)
def setRow (A : Rm) (r : Int) (R : Rw) : Rm := (A.1, A.2.1, A.2.2.1, (fun x => if x = r then R else A.2.2.2.1 x), A.2.2.2.2)
def setLet (A : Rm) (T : Int × (Int → Int)) : Rm := (A.1, A.2.1, A.2.2.1, A.2.2.2.1, T)
theorem StI.row {w w' : sW} {b r : Int} {A : Rm} {R : Rw} (h : StI w b A) (hr : 0 ≤ r ∧ r < A.1) (f : Fr w w' (b + 5 + 3 * r) (b + 5 + 3 * r + 2)) (g : RowI w' (b + 5 + 3 * r) R A.2.1) : StI w' b (setRow A r R) := by
  obtain ⟨h1, h2, h3, h4, h5, h6, h7⟩ := h
  refine ⟨h1.rowfr f (by omega) g.1.1, ?_, h3, h4, fun r' x y => ?_, fun r' x y => ?_, h7.fr f (by omega)⟩
  · rw [f.2.2 _ _ (by omega), f.2.2 _ _ (by omega)]; exact h2
  · change r' < A.1 at y
    rw [f.2.2 _ _ (by omega)]; exact h5 r' x y
  · change r' < A.1 at y
    show RowI w' _ (if r' = r then R else A.2.2.2.1 r') A.2.1
    by_cases z : r' = r
    · rw [if_pos z, z]; exact g
    · rw [if_neg z]; exact (h6 r' x y).fr f (by omega)
theorem StI.let {w w' : sW} {b : Int} {A : Rm} {T : Int × (Int → Int)} (h : StI w b A) (f : Fr w w' (b + 3) (b + 4)) (g : ScI w' (b + 3) T) : StI w' b (setLet A T) := by
  obtain ⟨⟨a1, a2, a3, a4, a5, a6, a7⟩, h2, h3, h4, h5, h6, h7⟩ := h
  refine ⟨⟨?_, ?_, fun r' x y => ?_, ?_, g.1, fun r' x y => (a6 r' x y).fr f (by omega), a7⟩, ?_, h3, h4, fun r' x y => ?_, fun r' x y => (h6 r' x y).fr f (by omega), g⟩
  · rw [f.kdE, f.2.2 _ _ (by omega), f.2.2 _ _ (by omega), f.2.2 _ _ (by omega)]; exact a1
  · rw [f.kdE, f.lnE]; exact a2
  · rw [f.2.2 _ _ (by omega)]; exact a3 r' x y
  · rw [f.kdE, f.lnE]; exact a4
  · rw [f.2.2 _ _ (by omega), f.2.2 _ _ (by omega)]; exact h2
  · rw [f.2.2 _ _ (by omega)]; exact h5 r' x y
section ST
variable {d : Nat} {w : sW} {b : Int} {A : Rm}
abbrev isR (A : Rm) (r : Int) : Prop := 0 ≤ r ∧ r < A.1
theorem m_rowAt (h : StI w b A) (r : Int) : Ex pro (d + 1) 77 w [rV b, iV r] = some (some (rV (if isR A r then b + 5 + 3 * r else 0)), w) := by
  obtain ⟨⟨⟨a1, a1', a1'', a1'''⟩, a2, a3, a4, a5, a6, a7⟩, h2, h3, h4, h5, h6, h7⟩ := h
  refine xX8_rowAt (Rn.ret ?_)
  rw [eX8_rowAt_0]
  unfold isR
  by_cases c : 0 ≤ r ∧ r < A.1
  · have := a3 r (by omega) (by omega)
    rw [if_pos c]
    grind
  · rw [if_neg c]
    grind
/-- the first row with a name, from r on -/
def nmb (m : Int → Int) (v r : Int) : Nat → Int
  | 0 => -1
  | f + 1 => if m r = v then r else nmb m v (r + 1) f
theorem l_numberOf {C : sC} (h : StI w b A) {v : Int} : ∀ (f : Nat) (r : Int), r + f = A.1 → 0 ≤ r → Rn C mX8_numberOf (2, [some (rV b), some (lV v), none, some (iV r)], [], w) (some (iV (nmb A.2.2.1 v r f)), w)
  | 0, r, hr, hr0 => by
    obtain ⟨⟨⟨a1, a1', a1'', a1'''⟩, a2, a3, a4, a5, a6, a7⟩, h2, h3, h4, h5, h6, h7⟩ := h
    refine Rn.ret ?_
    rw [eX8_numberOf_2]
    grind [nmb]
  | f + 1, r, hr, hr0 => by
    have ih := l_numberOf (C := C) h (v := v) f (r + 1) (by omega) (by omega)
    obtain ⟨⟨⟨a1, a1', a1'', a1'''⟩, a2, a3, a4, a5, a6, a7⟩, h2, h3, h4, h5, h6, h7⟩ := h
    have e := h5 r hr0 (by omega)
    by_cases c : A.2.2.1 r = v
    · rw [show nmb A.2.2.1 v r (f + 1) = r by simp [nmb, c]]
      refine Rn.ret ?_
      rw [eX8_numberOf_2, a1'', e, c]
      unfold cmpL
      grind
    · rw [show nmb A.2.2.1 v r (f + 1) = nmb A.2.2.1 v (r + 1) f by simp [nmb, c]]
      refine Rn.cut ?_ ih
      rw [eX8_numberOf_2, a1'', e, w32_eq (x := r + 1) (by omega) (by omega)]
      unfold cmpL
      grind
theorem m_numberOf (h : StI w b A) (v : Int) : Ex pro (d + 1) 78 w [rV b, lV v] = some (some (iV (nmb A.2.2.1 v 0 A.1.toNat)), w) := by
  have hn := h.2.2.1
  refine xX8_numberOf (Rn.cut ?_ (l_numberOf h A.1.toNat 0 (by omega) (by omega)))
  rw [eX8_numberOf_0]
/-- the bits of f rows from r on -/
def abt (m : Int → Rw) (r : Int) : Nat → Int
  | 0 => 0
  | f + 1 => (m r).1 + abt m (r + 1) f
theorem l_allBits {C : sC} (h : StI w b A) : ∀ (f : Nat) (y r : Int), r + f = A.1 → 0 ≤ r → 0 ≤ y → y ≤ 600 * r → Rn C mX8_allBits (4, [some (rV b), some (iV y), some (iV r)], [], w) (some (iV (y + abt A.2.2.2.1 r f)), w)
  | 0, y, r, hr, hr0, hy, hyr => by
    obtain ⟨⟨⟨a1, a1', a1'', a1'''⟩, a2, a3, a4, a5, a6, a7⟩, h2, h3, h4, h5, h6, h7⟩ := h
    refine Rn.ret ?_
    rw [eX8_allBits_4]
    grind [abt]
  | f + 1, y, r, hr, hr0, hy, hyr => by
    have hR := (h.2.2.2.2.2.1 r hr0 (by omega))
    have hn := hR.2.1.2.1
    have ih := l_allBits (C := C) h f (y + (A.2.2.2.1 r).1) (r + 1) (by omega) (by omega) (by omega) (by omega)
    rw [show y + (A.2.2.2.1 r).1 + abt A.2.2.2.1 (r + 1) f = y + abt A.2.2.2.1 r (f + 1) by simp only [abt]; omega] at ih
    have e1 := hR.1.1.1
    have e2 := hR.1.2.1
    obtain ⟨⟨⟨a1, a1', a1'', a1'''⟩, a2, a3, a4, a5, a6, a7⟩, h2, h3, h4, h5, h6, h7⟩ := h
    have e := a3 r hr0 (by omega)
    refine Rn.cut ?_ ih
    rw [eX8_allBits_4, a1', e, e2, w32_eq (x := r + 1) (by omega) (by omega), w32_eq (x := y + (A.2.2.2.1 r).1) (by omega) (by omega)]
    grind
theorem m_allBits (h : StI w b A) : Ex pro (d + 1) 79 w [rV b] = some (some (iV (abt A.2.2.2.1 0 A.1.toNat)), w) := by
  have hn := h.2.2.1
  have := l_allBits (C := Ex pro d) h A.1.toNat 0 0 (by omega) (by omega) (by omega) (by omega)
  rw [Int.zero_add] at this
  refine xX8_allBits (Rn.cut ?_ this)
  rw [eX8_allBits_0]
end ST
