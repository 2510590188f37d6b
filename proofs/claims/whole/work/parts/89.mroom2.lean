/-! ===== the room that the reference reads ===== -/
def MRd (w : sW) (m : Int) (A : Rm) : Prop := (gv w (m + 3) 0 = A.1 ∧ gv w (m + 3) 1 = A.2.1) ∧ (0 ≤ A.1 ∧ A.1 ≤ 4) ∧ (4 ≤ A.2.1 ∧ A.2.1 ≤ 32) ∧ (∀ r, 0 ≤ r → r < A.1 → RX (gv w (m + 3)) r A.2.1 (A.2.2.2.1 r)) ∧ (∀ r, A.1 ≤ r → r < 4 → gv w (m + 3) (2 + r) = 0) ∧ gv w (m + 3) 6 = A.2.2.2.2.1 ∧ (0 ≤ A.2.2.2.2.1 ∧ A.2.2.2.2.1 ≤ 200) ∧ (∀ i, 0 ≤ i → i < A.2.2.2.2.1 → gv w (m + 3) (7 + i) = A.2.2.2.2.2 i ∧ 0 ≤ A.2.2.2.2.2 i ∧ A.2.2.2.2.2 i < 8) ∧ ∀ r, 0 ≤ r → r < A.1 → nmR (A.2.2.1 r) (gv w (m + 9) r)
theorem MRd.mf {w w' : sW} {m : Int} {A : Rm} {P : Int → Int → Prop} (h : MRd w m A) (g : Mf w w' P) (h1 : ∀ j, ¬ P (m + 3) j) (h2 : ∀ j, ¬ P (m + 9) j) : MRd w' m A := by
  have e3 : gv w' (m + 3) = gv w (m + 3) := funext fun j => g.gvE (h1 j)
  have e9 : gv w' (m + 9) = gv w (m + 9) := funext fun j => g.gvE (h2 j)
  unfold MRd at *
  rw [e3, e9]
  exact h
/-- the cells that the reference changes as it reads a line -/
abbrev rP (m r j : Int) : Prop := (r = m ∧ 5 ≤ j ∧ j ≤ 13) ∨ r = m + 3 ∨ r = m + 9
theorem MRd.bit {w : sW} {m r v : Int} {A : Rm} (h : MRd w m A) (hr : 0 ≤ r ∧ r < A.1) (hn : (A.2.2.2.1 r).1 < 600) (hv : v = 0 ∨ v = 1) : MRd (sv (sv w (m + 3) (207 + 600 * r + (A.2.2.2.1 r).1) v) (m + 3) (2 + r) ((A.2.2.2.1 r).1 + 1)) m (setRow A r (insR (A.2.2.2.1 r) (A.2.2.2.1 r).1 v A.2.1)) := by
  obtain ⟨h1, h2, h3, h4, h5, h6, h7, h8, h9⟩ := h
  have hR := (h4 r hr.1 hr.2).n
  have X : ∀ j, gv (sv (sv w (m + 3) (207 + 600 * r + (A.2.2.2.1 r).1) v) (m + 3) (2 + r) ((A.2.2.2.1 r).1 + 1)) (m + 3) j = if j = 2 + r then (A.2.2.2.1 r).1 + 1 else if j = 207 + 600 * r + (A.2.2.2.1 r).1 then v else gv w (m + 3) j := fun j => by
    rw [gvS, gvS]
    by_cases c : j = 2 + r
    · rw [if_pos ⟨rfl, c⟩, if_pos c]
    · rw [if_neg (fun z => c z.2), if_neg c]
      by_cases e : j = 207 + 600 * r + (A.2.2.2.1 r).1
      · rw [if_pos ⟨rfl, e⟩, if_pos e]
      · rw [if_neg (fun z => e z.2), if_neg e]
  have X9 : ∀ j, gv (sv (sv w (m + 3) (207 + 600 * r + (A.2.2.2.1 r).1) v) (m + 3) (2 + r) ((A.2.2.2.1 r).1 + 1)) (m + 9) j = gv w (m + 9) j := fun j => by
    rw [gvS, if_neg (by omega), gvS, if_neg (by omega)]
  refine ⟨⟨?_, ?_⟩, h2, h3, fun r' r0 r1 => ?_, fun r' r0 r1 => ?_, ?_, h7, fun i i0 i1 => ?_, fun r' r0 r1 => ?_⟩
  · rw [X, if_neg (by omega), if_neg (by omega)]; exact h1.1
  · rw [X, if_neg (by omega), if_neg (by omega)]; exact h1.2
  · change r' < A.1 at r1
    show RX _ r' A.2.1 (if r' = r then insR (A.2.2.2.1 r) (A.2.2.2.1 r).1 v A.2.1 else A.2.2.2.1 r')
    by_cases z : r' = r
    · rw [if_pos z, z]
      refine (h4 r hr.1 hr.2).app hn (by omega) hv ?_ ?_ (fun i i0 i1 => ?_)
      · rw [X, if_pos rfl]
      · rw [X, if_neg (by omega), if_pos rfl]
      · rw [X, if_neg (by omega), if_neg (by omega)]
    · rw [if_neg z]
      refine (h4 r' r0 r1).cg ?_ (fun i i0 i1 => ?_)
      · rw [X, if_neg (by omega), if_neg (by omega)]
      · rw [X, if_neg (by omega), if_neg (by omega)]
  · change A.1 ≤ r' at r0
    rw [X, if_neg (by omega), if_neg (by omega)]
    exact h5 r' r0 r1
  · rw [X, if_neg (by omega), if_neg (by omega)]; exact h6
  · change i < A.2.2.2.2.1 at i1
    rw [X, if_neg (by omega), if_neg (by omega)]
    exact h8 i i0 i1
  · change r' < A.1 at r1
    rw [X9]
    exact h9 r' r0 r1
section MB2
variable {d : Nat} {w : sW} {m : Int} {t : Int → Int} {n most p : Int}
theorem l_mbits {r : Int} (k : tkK t n most p = 2) (h0 : 0 ≤ p) : ∀ (f : Nat) (x : Int) (w : sW) (A : Rm), MSh w m → RdM w m t n most p → MRd w m A → 0 ≤ r ∧ r < A.1 → x + f = tkT t n most p → tkP t n most p ≤ x → (A.2.2.2.1 r).1 + f ≤ 600 → ∃ w', (∀ res, Rn (Ex pro (d + 3)) mX12_readRow (86, [some (rV m), some (iV r), none], [], w') res → Rn (Ex pro (d + 3)) mX12_readRow (142, [some (rV m), some (iV r), some (iV x)], [], w) res) ∧ MSh w' m ∧ RdM w' m t n most (tkT t n most p) ∧ MRd w' m (setRow A r (appR (btO t) A.2.1 x f (A.2.2.2.1 r))) ∧ Mf w w' (rP m) ∧ gv w' m 10 = gv w m 10
  | 0, x, w, A, hM, h, hR, hr, hx, hx0, hn => by
    obtain ⟨w', a1, a2, a3⟩ := o_next (d := d + 1) h (by omega) h0
    refine ⟨w', fun res g => Rn.cut ?_ g, hM.mf a3 (fun j z => by omega), a2, ?_, a3.mono (fun r j z => by omega), a3.gvE (by omega)⟩
    · rw [eX12_readRow_142, if_pos h.1.1.1, h.2.2.2.1 (by omega), if_neg (by omega), if_pos h.1.1.1, a1]
      simp only [bN]
    · simp only [appR]
      rw [setRow1]
      exact hR.mf a3 (fun j => by omega) (fun j => by omega)
  | f + 1, x, w, A, hM, h, hR, hr, hx, hx0, hn => by
    have al := tk_len k h0
    have n94 := h.1.2.2.1
    have hA := hR.2.1
    have hs := (hR.2.2.2.1 r hr.1 hr.2).n
    have k10 := h.1.1.1
    have bt := (h.1.2.2.2.2 x (by omega) (by omega)).1
    have hv : btO t x = 0 ∨ btO t x = 1 := by
      unfold btO
      split
      · exact Or.inr rfl
      · exact Or.inl rfl
    have a15 := hM.2.2.2.1
    have m1 := Mf.svI w (m + 3) (207 + 600 * r + (A.2.2.2.1 r).1) (btO t x)
    have m2 := Mf.svI (sv w (m + 3) (207 + 600 * r + (A.2.2.2.1 r).1) (btO t x)) (m + 3) (2 + r) ((A.2.2.2.1 r).1 + 1)
    have mm : Mf w (sv (sv w (m + 3) (207 + 600 * r + (A.2.2.2.1 r).1) (btO t x)) (m + 3) (2 + r) ((A.2.2.2.1 r).1 + 1)) (fun r j => r = m + 3) := (m1.trans m2).mono (fun r j z => by omega)
    have R2 := hR.bit hr (by omega) hv
    obtain ⟨w', g1, g2, g3, g4, g5, g6⟩ := l_mbits k h0 f (x + 1) _ _ (hM.mf mm (fun j z => by omega)) (h.mf mm (fun j z => by omega) (fun j => by omega)) R2 hr (by omega) (by omega) (by rw [setRow_at]; show (A.2.2.2.1 r).1 + 1 + (f : Int) ≤ 600; omega)
    rw [setRow_at, setRow2] at g4
    refine ⟨w', fun res g => Rn.cut ?_ (g1 res g), g2, g3, g4, (mm.mono (Q := rP m) (fun r j z => by omega)).tr g5, by rw [g6, mm.gvE (by omega)]⟩
    have i1 : kd w (m + 3) = 20 ∧ 0 ≤ 2 + r ∧ 2 + r < ln w (m + 3) := ⟨a15.2.1, by omega, by rw [a15.2.2]; omega⟩
    have i2 : (kd w (m + 3) = 20 ∧ 32 ≤ m + 3) ∧ 0 ≤ 207 + 600 * r + (A.2.2.2.1 r).1 ∧ 207 + 600 * r + (A.2.2.2.1 r).1 < ln w (m + 3) := ⟨⟨a15.2.1, by have := hM.1.2; omega⟩, by omega, by rw [a15.2.2]; omega⟩
    have y15 : ∀ v, gv (sv w (m + 3) (207 + 600 * r + (A.2.2.2.1 r).1) v) m 15 = m + 3 := fun v => by rw [gvS, if_neg (by omega)]; exact a15.1
    have y2 : ∀ v, gv (sv w (m + 3) (207 + 600 * r + (A.2.2.2.1 r).1) v) (m + 3) (2 + r) = (A.2.2.2.1 r).1 := fun v => by rw [gvS, if_neg (by omega)]; exact hs.1
    have k1 : ∀ v, kd (sv w (m + 3) (207 + 600 * r + (A.2.2.2.1 r).1) v) m = 10 := fun _ => k10
    have i3 : ∀ v, kd (sv w (m + 3) (207 + 600 * r + (A.2.2.2.1 r).1) v) (m + 3) = 20 ∧ 0 ≤ 2 + r ∧ 2 + r < ln (sv w (m + 3) (207 + 600 * r + (A.2.2.2.1 r).1) v) (m + 3) := fun _ => i1
    rw [eX12_readRow_142, if_pos k10, h.2.2.2.1 (by omega), if_pos (by omega), if_pos k10, if_pos k10, a15.1, w32_eq (x := 2 + r) (by omega) (by omega), if_pos i1, if_pos k10, h.1.1.2.1, if_pos ⟨h.1.2.1.1, by omega, by rw [h.1.2.1.2]; omega⟩, bt, hs.1, w32_eq (x := 600 * r) (by omega) (by omega), w32_eq (x := 207 + 600 * r) (by omega) (by omega), w32_eq (x := 207 + 600 * r + (A.2.2.2.1 r).1) (by omega) (by omega)]
    by_cases c : t x = 105
    · have b1 : btO t x = 1 := by unfold btO; rw [if_pos c]
      rw [b1]
      rw [if_pos c, if_pos i2, wl_eq, if_pos (k1 _), y15, if_pos (i3 _), if_pos ⟨⟨(i3 _).1, by have := hM.1.2; omega⟩, (i3 1).2⟩, y2, w32_eq (by omega) (by omega), wl_eq, w32_eq (by omega) (by omega)]
    · have b1 : btO t x = 0 := by unfold btO; rw [if_neg c]
      rw [b1]
      rw [if_neg c, if_pos i2, wl_eq, if_pos (k1 _), y15, if_pos (i3 _), if_pos ⟨⟨(i3 _).1, by have := hM.1.2; omega⟩, (i3 0).2⟩, y2, w32_eq (by omega) (by omega), wl_eq, w32_eq (by omega) (by omega)]
end MB2
