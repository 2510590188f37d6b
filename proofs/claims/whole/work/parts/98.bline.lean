/-! ===== a line of a book: the class ===== -/
def thF (t : Int → Int) (n most : Int) (A : Rm) (S : Ts) (k a : Int) : Ts × Int := if k = 9 then stR t n most A S a else if k = 4 ∨ k = 5 then stN t n most S 0 1 else stN t n most S 1 600
/-- where reading goes on, and the three numbers of a line whose word is k -/
def bkL (t : Int → Int) (n most : Int) (A : Rm) (S : Ts) (k : Int) : Ts × Int × Int × Int :=
  if k = 10 then ((stN t n most (stN t n most S 0 999).1 0 7).1, (stN t n most S 0 999).2, (stN t n most (stN t n most S 0 999).1 0 7).2, 0)
  else if k = 11 then ((stN t n most (stN t n most S 0 999).1 1 600).1, (stN t n most S 0 999).2, (stN t n most (stN t n most S 0 999).1 1 600).2, 0)
  else if k = 8 then ((stR t n most A (stR t n most A S (-1)).1 (stR t n most A S (-1)).2).1, (stR t n most A S (-1)).2, (stR t n most A (stR t n most A S (-1)).1 (stR t n most A S (-1)).2).2, 0)
  else ((thF t n most A (stN t n most (stR t n most A S (-1)).1 0 999).1 k (stR t n most A S (-1)).2).1, (stR t n most A S (-1)).2, (stN t n most (stR t n most A S (-1)).1 0 999).2, (thF t n most A (stN t n most (stR t n most A S (-1)).1 0 999).1 k (stR t n most A S (-1)).2).2)
section BL
variable {d : Nat} {w : sW} {t : Int → Int} {n most : Int} {S : Ts}
theorem t_third {q k a : Int} {A : Rm} (h : RS w t n most S) (hS : StI w q A) (hq : q = 36 ∨ q = 53) (hk : k ≤ 23) : ∃ w', Ex pro (d + 4) 3 w [rV 34, rV q, rV k, iV a] = some (some (iV (thF t n most A S k a).2), w') ∧ RS w' t n most (thF t n most A S k a).1 ∧ Mf w w' rdC' := by
  have k4 := h.1.1.1.1
  unfold thF
  by_cases c9 : k = 9
  · rw [if_pos c9]
    obtain ⟨w', a1, a2, a3⟩ := t_stR (d := d) h hS hq a
    refine ⟨w', xX0_readThird (Rn.ret ?_), a2, a3⟩
    rw [eX0_readThird_0, if_pos (by omega), if_pos c9, if_pos k4, a1]
    simp only [bI]
  · rw [if_neg c9]
    by_cases c4 : k = 4 ∨ k = 5
    · rw [if_pos c4]
      obtain ⟨w', a1, a2, a3⟩ := t_stN (d := d) h 0 1
      refine ⟨w', xX0_readThird (Rn.ret ?_), a2, a3⟩
      rw [eX0_readThird_0, if_pos (by omega), if_neg c9, if_pos (by omega)]
      by_cases z : k = 4
      · rw [if_pos z, if_pos k4, a1]
        simp only [bI]
      · rw [if_neg z, if_pos (by omega), if_pos (by omega), if_pos k4, a1]
        simp only [bI]
    · rw [if_neg c4]
      obtain ⟨w', a1, a2, a3⟩ := t_stN (d := d) h 1 600
      refine ⟨w', xX0_readThird (Rn.ret ?_), a2, a3⟩
      rw [eX0_readThird_0, if_pos (by omega), if_neg c9, if_pos (by omega), if_neg (by omega), if_pos (by omega), if_neg (by omega), if_pos k4, a1]
      simp only [bI]
/-- a line up to the point where its numbers are kept -/
theorem l_bline {q k p : Int} {A : Rm} (h : RS w t n most (0, 0, p)) (hS : StI w q A) (hq : q = 36 ∨ q = 53) (hk : tkW t n most p = k) (h0 : k ≠ 0) : ∃ w', RS w' t n most (bkL t n most A (0, 0, tkT t n most p) k).1 ∧ Mf w w' rdC' ∧ ∀ res, Rn (Ex pro (d + 4)) mX0_readLine (127, [some (rV 80), none, none, some (rV k), some (iV (bkL t n most A (0, 0, tkT t n most p) k).2.1), some (iV (bkL t n most A (0, 0, tkT t n most p) k).2.2.1), some (iV (bkL t n most A (0, 0, tkT t n most p) k).2.2.2)], [], w') res → Rn (Ex pro (d + 4)) mX0_readLine (0, [some (rV 80), some (rV 34), some (rV q), none, none, none, none], [], w) res := by
  have k4 := h.1.1.1.1
  have wr := tkW_rg t n most p
  have w9 : gv w 34 9 = k := (h.1.2.2.2.2.2.2.2).trans hk
  have k2 := wr.2 (by omega)
  have ti := tk_in (t := t) (n := n) (most := most) (p := p) (by omega)
  have hp : 0 ≤ p := h.2.2.2
  obtain ⟨w1, a1, a2, a3, a4, a5⟩ := t_next (d := d + 2) (p := p) h.2.2.1 h.1 h.2.1 (by omega) hp
  have S1 := hS.mf a5 (fun r j r0 r1 => by omega)
  have R1 : RS w1 t n most (0, 0, tkT t n most p) := ⟨a2, a3, a4, by show 0 ≤ tkT t n most p; omega⟩
  have k41 := a2.1.1.1
  unfold bkL
  by_cases c10 : k = 10
  · rw [if_pos c10]
    obtain ⟨w2, b1, b2, b3⟩ := t_stN (d := d + 1) R1 0 999
    obtain ⟨w3, e1, e2, e3⟩ := t_stN (d := d + 1) b2 0 7
    refine ⟨w3, e2, (a5.trans (b3.trans e3)).mono (fun r j z => by omega), fun res g => Rn.cut ?_ g⟩
    rw [eX0_readLine_0, if_pos k4, if_pos k4, a1]
    simp only [bN]
    rw [w9, if_pos (by omega), if_pos c10, if_pos k41, b1]
    simp only [bI]
    rw [if_pos (by omega), if_pos c10, if_pos b2.1.1.1.1, e1]
  · rw [if_neg c10]
    by_cases c11 : k = 11
    · rw [if_pos c11]
      obtain ⟨w2, b1, b2, b3⟩ := t_stN (d := d + 1) R1 0 999
      obtain ⟨w3, e1, e2, e3⟩ := t_stN (d := d + 1) b2 1 600
      refine ⟨w3, e2, (a5.trans (b3.trans e3)).mono (fun r j z => by omega), fun res g => Rn.cut ?_ g⟩
      rw [eX0_readLine_0, if_pos k4, if_pos k4, a1]
      simp only [bN]
      rw [w9, if_pos (by omega), if_neg c10, if_pos (by omega), if_pos c11, if_pos k41, b1]
      simp only [bI]
      rw [if_pos (by omega), if_neg c10, if_pos b2.1.1.1.1, e1]
    · rw [if_neg c11]
      by_cases c8 : k = 8
      · rw [if_pos c8]
        obtain ⟨w2, b1, b2, b3⟩ := t_stR (d := d + 1) R1 S1 hq (-1)
        have S2 := S1.mf b3 (fun r j r0 r1 => by omega)
        obtain ⟨w3, e1, e2, e3⟩ := t_stR (d := d + 1) b2 S2 hq (stR t n most A (0, 0, tkT t n most p) (-1)).2
        refine ⟨w3, e2, (a5.trans (b3.trans e3)).mono (fun r j z => by omega), fun res g => Rn.cut ?_ g⟩
        rw [eX0_readLine_0, if_pos k4, if_pos k4, a1]
        simp only [bN]
        rw [w9, if_pos (by omega), if_neg c10, if_pos (by omega), if_neg c11, if_pos (by omega), if_pos c8, if_pos k41, b1]
        simp only [bI]
        rw [if_pos b2.1.1.1.1, e1]
      · rw [if_neg c8]
        obtain ⟨w2, b1, b2, b3⟩ := t_stR (d := d + 1) R1 S1 hq (-1)
        have S2 := S1.mf b3 (fun r j r0 r1 => by omega)
        obtain ⟨w3, e1, e2, e3⟩ := t_stN (d := d + 1) b2 0 999
        have S3 := S2.mf e3 (fun r j r0 r1 => by omega)
        obtain ⟨w4, f1, f2, f3⟩ := t_third (d := d) (k := k) (a := (stR t n most A (0, 0, tkT t n most p) (-1)).2) e2 S3 hq (by omega)
        refine ⟨w4, f2, (a5.trans (b3.trans (e3.trans f3))).mono (fun r j z => by omega), fun res g => Rn.cut ?_ g⟩
        rw [eX0_readLine_0, if_pos k4, if_pos k4, a1]
        simp only [bN]
        rw [w9, if_pos (by omega), if_neg c10, if_pos (by omega), if_neg c11, if_pos (by omega), if_neg c8, if_pos k41, b1]
        simp only [bI]
        rw [if_pos b2.1.1.1.1, e1]
        simp only []
        rw [f1]
end BL
