/-! ===== deeds on a room of the class ===== -/
def whyMv (A : Rm) (rf i rt : Int) : Int := if isR A rf ∧ isR A rt ∧ 0 ≤ i ∧ i < (A.2.2.2.1 rf).1 then (if 600 < (A.2.2.2.1 rt).1 + (A.2.2.2.1 rf).1 - i then 2 else 0) else 1
/-- why a deed (its word's number) can't be done, or 0 -/
def whyN (A : Rm) (e a b c : Int) : Int :=
  if e = 10 then (if a < 0 ∨ A.2.2.2.2.1 < a then 1 else if A.2.2.2.2.1 < 200 then 0 else 2)
  else if e = 11 then (if 0 ≤ a ∧ 0 ≤ b ∧ a + b ≤ A.2.2.2.2.1 then 0 else 1)
  else if isR A a then
    (if e = 8 then whyMv A b 0 a
    else if e = 9 then whyMv A a b c
    else if e = 4 then (if 0 ≤ b ∧ b ≤ (A.2.2.2.1 a).1 then (if (A.2.2.2.1 a).1 < 600 then 0 else 2) else 1)
    else if e = 5 then (if 0 ≤ b ∧ b < (A.2.2.2.1 a).1 then (if (A.2.2.2.1 a).2.1 b = c then 2 else 0) else 1)
    else if 0 ≤ b ∧ 0 ≤ c ∧ b + c ≤ (A.2.2.2.1 a).1 then 0 else 1)
  else 1
/-- the deed done -/
def actF (A : Rm) (e a b c : Int) : Rm :=
  if e = 10 then setLet A (insT A.2.2.2.2 a b)
  else if e = 11 then setLet A (remT A.2.2.2.2 a b)
  else if e = 4 then setRow A a (insR (A.2.2.2.1 a) b c A.2.1)
  else if e = 5 then setRow A a (turR (A.2.2.2.1 a) b 1)
  else if e = 6 then setRow A a (remR (A.2.2.2.1 a) b c A.2.1)
  else if e = 7 then setRow A a (turR (A.2.2.2.1 a) b c)
  else if e = 8 then setRow (setRow A a (appR (A.2.2.2.1 b).2.1 A.2.1 0 (A.2.2.2.1 b).1.toNat (A.2.2.2.1 a))) b (clrR (A.2.2.2.1 b))
  else setRow (setRow A c (appR (A.2.2.2.1 a).2.1 A.2.1 b ((A.2.2.2.1 a).1 - b).toNat (A.2.2.2.1 c))) a (remR (A.2.2.2.1 a) b ((A.2.2.2.1 a).1 - b) A.2.1)
theorem bR_eq {α : Type} {x : Int} (h : 0 ≤ x) (w : sW) (k : Int → sW → Option α) : bR (some (some (rV x), w)) k = k x w := by simp [bR, rV, h]
section ST2
variable {d : Nat} {w : sW} {q : Int} {A : Rm}
theorem m_whyMv (h : StI w q A) {rf i rt : Int} (hi : in32 i) : Ex pro (d + 2) 87 w [rV (if isR A rf then q + 5 + 3 * rf else 0), iV i, rV (if isR A rt then q + 5 + 3 * rt else 0)] = some (some (iV (whyMv A rf i rt)), w) := by
  have h7 : 32 ≤ q := h.1.2.2.2.2.2.2
  have hrow := h.2.2.2.2.2.1
  refine xX8_whyNotMoved (Rn.ret ?_)
  rw [eX8_whyNotMoved_0]
  unfold whyMv
  by_cases c1 : isR A rf
  · by_cases c2 : isR A rt
    · have g1 := hrow rf c1.1 c1.2
      have g2 := hrow rt c2.1 c2.2
      have e := s_bitAt (d := d) g1.at i
      have n1 := g1.2.1.2.1
      have n2 := g2.2.1.2.1
      have b1 := g1.2.2 i
      rw [if_pos c1, if_pos c2, if_neg (by unfold isR at c1; omega), if_neg (by unfold isR at c2; omega), if_pos g1.1.1.1, e]
      simp only [bI]
      rw [if_pos g2.1.1.1, if_pos g1.1.1.1, g1.1.2.1, g2.1.2.1, w32_eq (x := (A.2.2.2.1 rt).1 + (A.2.2.2.1 rf).1) (by omega) (by omega)]
      unfold in32 at hi
      by_cases c3 : 0 ≤ i ∧ i < (A.2.2.2.1 rf).1
      · rw [if_pos c3, w32_eq (x := (A.2.2.2.1 rt).1 + (A.2.2.2.1 rf).1 - i) (by omega) (by omega), if_neg (by have := b1 c3.1 c3.2; omega), if_pos (⟨c1, c2, c3⟩ : isR A rf ∧ isR A rt ∧ 0 ≤ i ∧ i < (A.2.2.2.1 rf).1)]
        split <;> rfl
      · rw [if_neg c3, if_pos rfl, if_neg (fun z => c3 z.2.2)]
    · have c3 : ¬ (isR A rf ∧ isR A rt ∧ 0 ≤ i ∧ i < (A.2.2.2.1 rf).1) := fun z => c2 z.2.1
      rw [if_neg c3, if_neg c2, if_pos c1, if_neg (by unfold isR at c1; omega), if_pos rfl]
  · have c3 : ¬ (isR A rf ∧ isR A rt ∧ 0 ≤ i ∧ i < (A.2.2.2.1 rf).1) := fun z => c1 z.1
    rw [if_neg c3, if_neg c1, if_pos rfl]
theorem m_whyNot (h : StI w q A) {e a b c : Int} (he : 4 ≤ e ∧ e ≤ 11) (hb : in32 b) (hc : in32 c) : Ex pro (d + 3) 86 w [rV q, rV e, iV a, iV b, iV c] = some (some (iV (whyN A e a b c)), w) := by
  have hr := m_rowAt (d := d + 1) h a
  have k1 := h.1.1.1
  have k2 := h.1.1.2.2.2
  have hT := h.2.2.2.2.2.2
  have k3 := hT.1.1
  have k4 := hT.2.1
  have kn := hT.2.2.1
  have h32 : 32 ≤ q := h.1.2.2.2.2.2.2
  refine xX8_whyNot (Rn.ret ?_)
  rw [eX8_whyNot_0]
  unfold whyN
  rw [if_pos ⟨by omega, by omega⟩]
  by_cases e10 : e = 10
  · rw [if_pos e10, if_pos e10, k2, k4]
    grind
  · rw [if_neg e10, if_neg e10, if_pos ⟨by omega, by omega⟩]
    by_cases e11 : e = 11
    · rw [if_pos e11, if_pos e11, if_pos k1, k2, if_pos k3, c_hasRange (d := d + 1) hT hb]
      simp only [bI]
      split <;> simp
    · rw [if_neg e11, if_neg e11, if_pos k1, hr, bR_eq (by unfold isR; grind)]
      by_cases ca : isR A a
      · have g := h.2.2.2.2.2.1 a ca.1 ca.2
        have n1 := g.2.1.2.1
        have s1 := g.1.1.1
        have s2 := g.1.2.1
        rw [if_pos ca, if_pos ca, if_neg (by unfold isR at ca; omega), if_pos ⟨by omega, by omega⟩]
        by_cases e8 : e = 8
        · have m := m_whyMv (d := d) h (rf := b) (i := 0) (rt := a) (by unfold in32; omega)
          rw [if_pos ca] at m
          rw [if_pos e8, if_pos e8, if_pos k1, m_rowAt (d := d + 1) h b, bR_eq (by unfold isR; grind), m]
          simp only [bI]
        · rw [if_neg e8, if_neg e8, if_pos ⟨by omega, by omega⟩]
          by_cases e9 : e = 9
          · have m := m_whyMv (d := d) h (rf := a) (i := b) (rt := c) hb
            rw [if_pos ca] at m
            rw [if_pos e9, if_pos e9, if_pos k1, m_rowAt (d := d + 1) h c, bR_eq (by unfold isR; grind), m]
            simp only [bI]
          · rw [if_neg e9, if_neg e9, if_pos ⟨by omega, by omega⟩]
            by_cases e4 : e = 4
            · rw [if_pos e4, if_pos e4, if_pos s1, s_hasGap (d := d + 1) g.at b]
              simp only [bI]
              grind
            · rw [if_neg e4, if_neg e4, if_pos ⟨by omega, by omega⟩]
              by_cases e5 : e = 5
              · have b1 := g.2.2 b
                rw [if_pos e5, if_pos e5, if_pos s1, s_bitAt (d := d + 1) g.at b]
                simp only [bI]
                rw [if_pos s1, s_bitAt (d := d + 1) g.at b]
                simp only []
                grind
              · rw [if_neg e5, if_neg e5, if_pos s1, s_hasRange (d := d + 1) g.at hc]
                simp only [bI]
                grind
      · rw [if_neg ca, if_neg ca, if_pos rfl]
theorem l_stCopy {q' : Int} (ho : q + 16 < q' ∨ q' + 16 < q) : ∀ (f : Nat) (r : Int) (w : sW), r + f = A.1 → 0 ≤ r → StSh w q → StI w q' A → (∀ x, 0 ≤ x → x < r → gv w (q + 2) x = A.2.2.1 x ∧ RowI w (q + 5 + 3 * x) (A.2.2.2.1 x) A.2.1) → ∃ w', Rn (Ex pro (d + 1)) mX8_copyFrom (2, [some (rV q), some (rV q'), some (iV r)], [], w) (none, w') ∧ Fr w w' q (q + 16) ∧ StI w' q A
  | 0, r, w, hr, hr0, hs, hi, hd => by
    obtain ⟨w1, e1, e2, e3⟩ := c_copyFrom (d := d) (w := w) (a := q + 3) (a' := q' + 3) (T := A.2.2.2.2) (by omega) hs.2.2.2.2.1 hi.2.2.2.2.2.2
    have hq : 32 ≤ q := hs.2.2.2.2.2.2
    have i1 := hi.fr e2 (by omega)
    obtain ⟨⟨a1, a1', a1'', a1'''⟩, a2, a3, a4, a5, a6, a7⟩ := hs
    obtain ⟨⟨⟨b1, b1', b1'', b1'''⟩, b2, b3, b4, b5, b6, b7⟩, h2, h3, h4, h5, h6, h7⟩ := hi
    have j1 : gv w1 q' 3 = A.1 := i1.2.1.1
    have j2 : gv w1 q' 4 = A.2.1 := i1.2.1.2
    have f1 : Fr w1 (sv (sv w1 q 3 A.1) q 4 A.2.1) q q := Fr.trans (w' := sv w1 q 3 A.1) (Fr.svI (by omega) (by omega)) (Fr.svI (by omega) (by omega))
    refine ⟨sv (sv w1 q 3 A.1) q 4 A.2.1, Rn.ret ?_, (e2.mono (by omega) (by omega)).trans (f1.mono (by omega) (by omega)), ?_⟩
    · have j3 : gv (sv w1 q 3 A.1) q' 4 = A.2.1 := by rw [gvS, if_neg (by omega), j2]
      have j4 : kd w1 q = 8 := by rw [e2.kdE]; exact a1
      have j5 : kd w1 q' = 8 := by rw [e2.kdE]; exact b1
      have j6 := a5.1
      rw [eX8_copyFrom_2, a1''', b1''', e1]
      simp only [bN, wl_eq, kdS]
      rw [j1, j3]
      grind
    · refine ⟨⟨?_, ?_, fun x x1 x2 => ?_, ?_, e3.1.fr f1 (by omega), fun x x1 x2 => ((a6 x x1 x2).fr e2 (by omega)).fr f1 (by omega), a7⟩, ?_, h3, h4, fun x x1 x2 => ?_, fun x x1 x2 => ?_, e3.fr f1 (by omega)⟩
      · rw [f1.kdE, e2.kdE, gvS, if_neg (by omega), gvS, if_neg (by omega), gvS, if_neg (by omega), gvS, if_neg (by omega), gvS, if_neg (by omega), gvS, if_neg (by omega), e2.2.2 _ _ (by omega), e2.2.2 _ _ (by omega), e2.2.2 _ _ (by omega)]
        exact ⟨a1, a1', a1'', a1'''⟩
      · rw [f1.kdE, e2.kdE, f1.lnE, e2.lnE]; exact a2
      · rw [f1.2.2 _ _ (by omega), e2.2.2 _ _ (by omega)]; exact a3 x x1 x2
      · rw [f1.kdE, e2.kdE, f1.lnE, e2.lnE]; exact a4
      · simp only [gvS]
        grind
      · rw [f1.2.2 _ _ (by omega), e2.2.2 _ _ (by omega)]; exact (hd x x1 (by omega)).1
      · exact ((hd x x1 (by omega)).2.fr e2 (by omega)).fr f1 (by omega)
  | f + 1, r, w, hr, hr0, hs, hi, hd => by
    have hA := hi.2.2.1
    have hq : 32 ≤ q := hs.2.2.2.2.2.2
    have hR := hi.2.2.2.2.2.1 r hr0 (by omega)
    obtain ⟨w1, e1, e2, e3⟩ := r_copyFrom (d := d) (w := w) (a := q + 5 + 3 * r) (a' := q' + 5 + 3 * r) (by omega) (hs.2.2.2.2.2.1 r hr0 (by omega)) hR
    have i1 := hi.fr e2 (by omega)
    have s1 := hs.rowfr e2 (by omega) e3.1.1
    have f1 : Fr w1 (sv w1 (q + 2) r (A.2.2.1 r)) (q + 2) (q + 2) := Fr.svI (by omega) (by omega)
    have s2 : StSh (sv w1 (q + 2) r (A.2.2.1 r)) q := by
      obtain ⟨a1, a2, a3, a4, a5, a6, a7⟩ := s1
      refine ⟨?_, ?_, fun x x1 x2 => ?_, ?_, a5.fr f1 (by omega), fun x x1 x2 => (a6 x x1 x2).fr f1 (by omega), a7⟩
      · rw [f1.kdE, f1.2.2 _ _ (by omega), f1.2.2 _ _ (by omega), f1.2.2 _ _ (by omega)]; exact a1
      · rw [f1.kdE, f1.lnE]; exact a2
      · rw [f1.2.2 _ _ (by omega)]; exact a3 x x1 x2
      · rw [f1.kdE, f1.lnE]; exact a4
    obtain ⟨w', g1, g2, g3⟩ := l_stCopy ho f (r + 1) (sv w1 (q + 2) r (A.2.2.1 r)) (by omega) (by omega) s2 (i1.fr f1 (by omega)) (fun x x1 x2 => by
      by_cases z : x = r
      · rw [z, gvS, if_pos ⟨rfl, rfl⟩]
        exact ⟨rfl, e3.fr f1 (by omega)⟩
      · have := hd x x1 (by omega)
        rw [gvS, if_neg (by omega), e2.2.2 _ _ (by omega)]
        exact ⟨this.1, (this.2.fr e2 (by omega)).fr f1 (by omega)⟩)
    refine ⟨w', Rn.cut ?_ g1, (e2.mono (by omega) (by omega)).trans ((f1.mono (by omega) (by omega)).trans g2), g3⟩
    have j3 := i1.2.2.2.2.1 r hr0 (by omega)
    have j4 := i1.1.1.2.2.1
    have j5 := s1.1.2.2.1
    have j6 := i1.1.1.1
    have j7 := s1.1.1
    have j8 := s1.2.2.2.1
    have j9 := i1.1.2.2.2.1
    obtain ⟨⟨a1, a1', a1'', a1'''⟩, a2, a3, a4, a5, a6, a7⟩ := hs
    obtain ⟨⟨⟨b1, b1', b1'', b1'''⟩, b2, b3, b4, b5, b6, b7⟩, h2, h3, h4, h5, h6, h7⟩ := hi
    have m1 := (a6 r hr0 (by omega)).1
    rw [eX8_copyFrom_2, a1', b1', a3 r hr0 (by omega), b3 r hr0 (by omega), e1]
    simp only [bN, wl_eq]
    rw [j4, j5, j3, w32_eq (x := r + 1) (by omega) (by omega)]
    grind
theorem m_copyFrom {q' : Int} (ho : q + 16 < q' ∨ q' + 16 < q) (hs : StSh w q) (hi : StI w q' A) : ∃ w', Ex pro (d + 2) 76 w [rV q, rV q'] = some (none, w') ∧ Fr w w' q (q + 16) ∧ StI w' q A := by
  have hA := hi.2.2.1
  obtain ⟨w', g1, g2, g3⟩ := l_stCopy (d := d) ho A.1.toNat 0 w (by omega) (by omega) hs hi (fun x x1 x2 => by omega)
  refine ⟨w', xX8_copyFrom (Rn.cut ?_ g1), g2, g3⟩
  rw [eX8_copyFrom_0]
end ST2
