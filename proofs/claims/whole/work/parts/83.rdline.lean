/-! ===== the lines of a room: the class ===== -/
/-- a line that tells a row: fault, its place, where reading goes on, the room -/
def rowLn (t : Int → Int) (n most : Int) (A : Rm) (p : Int) : Int × Int × Int × Rm :=
  if A.1 < 4 then
    (if isNm t n most (tkT t n most p) then
      (if rowN A t n most (tkT t n most p) = -1 then
        ((rdB t n most A.2.1 940 (tkT t n most (tkT t n most p)) Z0).1, (rdB t n most A.2.1 940 (tkT t n most (tkT t n most p)) Z0).2.1, (rdB t n most A.2.1 940 (tkT t n most (tkT t n most p)) Z0).2.2.1, addRow A (tk32 t n most (tkT t n most p)) (rdB t n most A.2.1 940 (tkT t n most (tkT t n most p)) Z0).2.2.2)
      else (3, tkP t n most (tkT t n most p), tkT t n most p, A))
    else (1, tkP t n most (tkT t n most p), tkT t n most p, A))
  else (4, tkP t n most p, p, A)
theorem setRow_add (A : Rm) (c : Int) (R R' : Rw) : setRow (addRow A c R) A.1 R' = addRow A c R' := by
  unfold setRow addRow
  simp only [Prod.mk.injEq, true_and, and_true]
  funext x
  by_cases z : x = A.1
  · simp only [z, if_true]
  · simp only [z, if_false]
theorem addRow_at (A : Rm) (c : Int) (R : Rw) : (addRow A c R).2.2.2.1 A.1 = R := by
  unfold addRow
  simp only [if_true]
section RLn
variable {d : Nat} {w : sW} {t : Int → Int} {n most p : Int}
theorem t_rowLn {q : Int} {A : Rm} (hW : WordI w) (h : RdI w t n most p) (hf : FlI w 0 0) (h0 : 0 ≤ p) (hq : q = 36 ∨ q = 53) (hS : StI w q A) (k : tkK t n most p = 2) : ∃ w', Ex pro (d + 4) 82 w [rV q, rV 34] = some (none, w') ∧ RdI w' t n most (rowLn t n most A p).2.2.1 ∧ FlI w' (rowLn t n most A p).1 (rowLn t n most A p).2.1 ∧ WordI w' ∧ StI w' q (rowLn t n most A p).2.2.2 ∧ Mf w w' (rmP q) ∧ gv w' q 5 = gv w q 5 := by
  have k4 := h.1.1.1
  have k8 := hS.1.1.1
  have hA := hS.2.2.1
  unfold rowLn
  by_cases c4 : A.1 < 4
  · have ti := tk_in (t := t) (n := n) (most := most) (p := p) (by omega)
    obtain ⟨w1, a1, a2, a3, a4, a5⟩ := t_next (d := d + 1) hW h hf (by omega) h0
    have S1 := hS.mf a5 (fun r j r0 r1 => by omega)
    rw [if_pos c4]
    by_cases c : isNm t n most (tkT t n most p)
    · rw [if_pos c]
      by_cases c1 : rowN A t n most (tkT t n most p) = -1
      · rw [if_pos c1]
        have g8 := a2.2.2.2.2.1 c.1
        have ti2 := tk_in (t := t) (n := n) (most := most) (p := tkT t n most p) (by omega)
        have m2 := Mf.svI w1 (q + 2) A.1 (tk32 t n most (tkT t n most p))
        have q32 := hS.1.2.2.2.2.2.2
        have F0 : Fr w1 (sv w1 (q + 2) A.1 (tk32 t n most (tkT t n most p))) (q + 2) (q + 2) := Fr.svI (by omega) (by omega)
        have sh := (S1.1.2.2.2.2.2.1 A.1 hA.1 c4).fr F0 (by omega)
        obtain ⟨w3, b1, b2, b3⟩ := r_clear0 (d := d + 2) sh S1.2.2.2.1
        have S4 := S1.add c4 b2 b3
        have m3 := b2.mf
        have m4 := Mf.svI w3 q 3 (A.1 + 1)
        have mm : Mf w1 (sv w3 q 3 (A.1 + 1)) (fun r j => (r = q + 2 ∧ j = A.1) ∨ (q + 5 + 3 * A.1 ≤ r ∧ r ≤ q + 5 + 3 * A.1 + 2) ∨ (r = q ∧ j = 3)) := (m2.trans (m3.trans m4)).mono (fun r j z => by omega)
        have R4 : RdI (sv w3 q 3 (A.1 + 1)) t n most (tkT t n most p) := a2.mf mm (fun j j0 j1 => by omega) (fun j => by omega)
        have F4 : FlI (sv w3 q 3 (A.1 + 1)) 0 0 := ⟨by rw [mm.gvE (by omega)]; exact a3.1, by rw [mm.gvE (by omega)]; exact a3.2⟩
        have W4 : WordI (sv w3 q 3 (A.1 + 1)) := a4.eq (mm.eqO (fun r j r0 r1 => by omega))
        obtain ⟨w5, e1, e2, e3, e4, e5⟩ := t_next (d := d + 1) W4 R4 F4 (by omega) (by omega)
        have S5 := S4.mf e5 (fun r j r0 r1 => by omega)
        obtain ⟨w', g1, g2, g3, g4, g5, g6, g7⟩ := l_rowW (d := d) (r := A.1) hq 940 0 _ w5 _ (by omega) (by omega) (by omega) e2 e3 e4 S5 ⟨hA.1, by show A.1 < A.1 + 1; omega⟩
        rw [addRow_at] at g2 g3 g5
        rw [setRow_add] at g5
        refine ⟨w', xX8_readRow (Rn.cut ?_ g1), g2, g3, g4, g5, ((a5.trans (mm.trans e5)).mono (Q := rmP q) (fun r j z => by omega)).tr g6, by rw [g7, e5.gvE (by omega), mm.gvE (by omega), a5.gvE (by omega)]⟩
        have k8' := S1.1.1.1
        have k8s : kd (sv w1 (q + 2) A.1 (tk32 t n most (tkT t n most p))) q = 8 := k8'
        have k83 : kd w3 q = 8 := by rw [m3.kdE]; exact k8s
        have y0 : gv (sv w1 (q + 2) A.1 (tk32 t n most (tkT t n most p))) q 0 = q + 1 := by rw [m2.gvE (by omega)]; exact S1.1.1.2.1
        have y3 : gv (sv w1 (q + 2) A.1 (tk32 t n most (tkT t n most p))) q 3 = A.1 := by rw [m2.gvE (by omega)]; exact S1.2.1.1
        have y33 : gv w3 q 3 = A.1 := by rw [m3.gvE (by omega)]; exact y3
        have yr : gv (sv w1 (q + 2) A.1 (tk32 t n most (tkT t n most p))) (q + 1) A.1 = q + 5 + 3 * A.1 := by rw [m2.gvE (by omega)]; exact S1.1.2.2.1 A.1 hA.1 c4
        have kq1 : kd (sv w1 (q + 2) A.1 (tk32 t n most (tkT t n most p))) (q + 1) = 24 := S1.1.2.1.1
        have lq1 : ln (sv w1 (q + 2) A.1 (tk32 t n most (tkT t n most p))) (q + 1) = 4 := S1.1.2.1.2
        rw [eX8_readRow_0, if_pos k8, hS.2.1.1, if_pos c4, if_pos k4, a1]
        simp only [bN]
        rw [if_pos a2.1.1.1, t_isAtName a2]
        simp only [bI, ite10]
        rw [if_pos c, if_pos a2.1.1.1, if_pos k8', g8, m_numberOf S1]
        simp only []
        change (if rowN A t n most (tkT t n most p) = -1 then _ else _) = _
        rw [if_pos c1, if_pos k8', if_pos k8', if_pos a2.1.1.1, S1.1.1.2.2.1, S1.2.1.1, if_pos ⟨S1.1.2.2.2.1.1, hA.1, by rw [S1.1.2.2.2.1.2]; exact c4⟩, wl_eq, g8, if_pos k8s, if_pos k8s, y0, y3, kq1, lq1, if_pos ⟨by omega, hA.1, c4⟩, yr, if_pos sh.1, b1]
        simp only []
        rw [if_pos k83, if_pos k83, y33, w32_eq (by omega) (by omega), wl_eq, if_pos R4.1.1.1, e1]
      · rw [if_neg c1]
        have g8 := a2.2.2.2.2.1 c.1
        obtain ⟨w2, b1, b2, b3, b4⟩ := t_fail (d := d + 2) a2 a3 3
        refine ⟨w2, xX8_readRow (Rn.ret ?_), b2, b3, a4.mf34 b4, S1.mf b4 (fun r j r0 r1 => by omega), (a5.trans b4).mono (fun r j z => by omega), by rw [b4.gvE (by omega), a5.gvE (by omega)]⟩
        rw [eX8_readRow_0, if_pos k8, hS.2.1.1, if_pos c4, if_pos k4, a1]
        simp only [bN]
        rw [if_pos a2.1.1.1, t_isAtName a2]
        simp only [bI, ite10]
        rw [if_pos c, if_pos a2.1.1.1, if_pos S1.1.1.1, g8, m_numberOf S1]
        simp only []
        change (if rowN A t n most (tkT t n most p) = -1 then _ else _) = _
        rw [if_neg c1, if_pos a2.1.1.1, b1]
    · rw [if_neg c]
      obtain ⟨w2, b1, b2, b3, b4⟩ := t_fail (d := d + 2) a2 a3 1
      refine ⟨w2, xX8_readRow (Rn.ret ?_), b2, b3, a4.mf34 b4, S1.mf b4 (fun r j r0 r1 => by omega), (a5.trans b4).mono (fun r j z => by omega), by rw [b4.gvE (by omega), a5.gvE (by omega)]⟩
      rw [eX8_readRow_0, if_pos k8, hS.2.1.1, if_pos c4, if_pos k4, a1]
      simp only [bN]
      rw [if_pos a2.1.1.1, t_isAtName a2]
      simp only [bI, ite10]
      rw [if_neg c, if_pos a2.1.1.1, b1]
  · rw [if_neg c4]
    obtain ⟨w2, b1, b2, b3, b4⟩ := t_fail (d := d + 2) h hf 4
    refine ⟨w2, xX8_readRow (Rn.ret ?_), b2, b3, hW.mf34 b4, hS.mf b4 (fun r j r0 r1 => by omega), b4.mono (fun r j z => by omega), b4.gvE (by omega)⟩
    rw [eX8_readRow_0, if_pos k8, hS.2.1.1, if_neg c4, if_pos k4, b1]
    simp only [bN]
end RLn
