section ST3
variable {d : Nat} {w : sW} {q : Int} {A : Rm}
theorem l_act74 (h : StI w q A) {e a b c : Int} (he : 4 ≤ e ∧ e ≤ 9) (hw : whyN A e a b c = 0) (hp : e = 4 → c = 0 ∨ c = 1) (h8 : e = 8 → a ≠ b) (h9 : e = 9 → a ≠ c) : ∃ w', Rn (Ex pro (d + 3)) mX8_act (74, [some (rV q), some (rV e), none, some (iV b), some (iV c), some (rV (if isR A a then q + 5 + 3 * a else 0)), none], [rV (if e = 8 then (if isR A b then q + 5 + 3 * b else 0) else if e = 9 then (if isR A c then q + 5 + 3 * c else 0) else (if isR A a then q + 5 + 3 * a else 0))], w) (none, w') ∧ Fr w w' q (q + 16) ∧ StI w' q (actF A e a b c) := by
  have hq : 32 ≤ q := h.1.2.2.2.2.2.2
  have k1 := h.1.1.1
  have k4 := h.2.1.2
  have hA := h.2.2.1
  have hlow := h.2.2.2.1
  unfold whyN at hw
  rw [if_neg (by omega), if_neg (by omega)] at hw
  by_cases ca : isR A a
  · rw [if_pos ca] at hw ⊢
    have g := h.2.2.2.2.2.1 a ca.1 ca.2
    have ra : 0 ≤ a ∧ a < A.1 := ca
    have s1 := g.1.1.1
    have n1 := g.2.1.2.1
    unfold actF
    rw [if_neg (show ¬ e = 10 by omega), if_neg (show ¬ e = 11 by omega)]
    by_cases e8 : e = 8
    · rw [if_pos e8] at hw ⊢
      unfold whyMv at hw
      have cb : isR A b ∧ isR A a ∧ (0 : Int) ≤ 0 ∧ 0 < (A.2.2.2.1 b).1 := by
        by_cases z : isR A b ∧ isR A a ∧ (0 : Int) ≤ 0 ∧ 0 < (A.2.2.2.1 b).1
        · exact z
        · rw [if_neg z] at hw
          omega
      rw [if_pos cb] at hw
      have rb : 0 ≤ b ∧ b < A.1 := cb.1
      have gb := h.2.2.2.2.2.1 b rb.1 rb.2
      have hab := h8 e8
      obtain ⟨w1, e1, e2, e3⟩ := r_append (d := d) (by omega) g gb (p := 0) (by omega) (by split at hw <;> omega)
      have i1 := h.row ra e2 e3
      have gb1 := gb.fr e2 (by omega)
      obtain ⟨w2, f1, f2, f3⟩ := r_clear (d := d + 2) gb1
      have i2 := i1.row (r := b) rb f2 f3
      rw [show (A.2.2.2.1 b).1 - 0 = (A.2.2.2.1 b).1 by omega] at i2
      refine ⟨w2, Rn.ret ?_, (e2.mono (by omega) (by omega)).trans (f2.mono (by omega) (by omega)), ?_⟩
      · rw [eX8_act_74, if_pos cb.1, k4, e1]
        simp only [bN]
        rw [f1]
        have := gb1.1.1.1
        simp only [e8]
        grind
      · rw [if_neg (by omega), if_neg (by omega), if_neg (by omega), if_neg (by omega), if_pos e8]
        exact i2
    · rw [if_neg e8] at hw ⊢
      by_cases e9 : e = 9
      · rw [if_pos e9] at hw ⊢
        unfold whyMv at hw
        have cb : isR A a ∧ isR A c ∧ 0 ≤ b ∧ b < (A.2.2.2.1 a).1 := by
          by_cases z : isR A a ∧ isR A c ∧ 0 ≤ b ∧ b < (A.2.2.2.1 a).1
          · exact z
          · rw [if_neg z] at hw
            omega
        rw [if_pos cb] at hw
        have rc : 0 ≤ c ∧ c < A.1 := cb.2.1
        have gc := h.2.2.2.2.2.1 c rc.1 rc.2
        have hac := h9 e9
        obtain ⟨w1, e1, e2, e3⟩ := r_append (d := d) (by omega) gc g (p := b) (by omega) (by split at hw <;> omega)
        have i1 := h.row rc e2 e3
        have ga1 := g.fr e2 (by omega)
        obtain ⟨w2, f1, f2, f3⟩ := r_remove (d := d) ga1 (i := b) (c := (A.2.2.2.1 a).1 - b) (by omega) (by omega) (by omega)
        have i2 := i1.row (r := a) ra f2 f3
        refine ⟨w2, Rn.ret ?_, (e2.mono (by omega) (by omega)).trans (f2.mono (by omega) (by omega)), ?_⟩
        · have j1 := ga1.1.1.1
          have j2 := ga1.1.2.1
          have j3 : gv w1 q 4 = A.2.1 := i1.2.1.2
          have j4 := i1.1.1.1
          have j5 := gc.1.1.1
          rw [eX8_act_74, if_pos cb.2.1, k4, e1]
          simp only [bN]
          rw [j2, j3, w32_eq (x := (A.2.2.2.1 a).1 - b) (by omega) (by omega), f1]
          simp only [e9]
          grind
        · rw [if_neg (by omega), if_neg (by omega), if_neg (by omega), if_neg (by omega), if_neg e8]
          exact i2
      · rw [if_neg e9] at hw ⊢
        by_cases e4 : e = 4
        · rw [if_pos e4] at hw ⊢
          have cc : (0 ≤ b ∧ b ≤ (A.2.2.2.1 a).1) ∧ (A.2.2.2.1 a).1 < 600 := by
            split at hw
            · split at hw
              · exact ⟨by assumption, by assumption⟩
              · omega
            · omega
          obtain ⟨w1, e1, e2, e3⟩ := r_insert (d := d + 1) g cc.2 (i := b) (v := c) cc.1 (hp e4)
          refine ⟨w1, Rn.ret ?_, e2.mono (by omega) (by omega), h.row ra e2 e3⟩
          rw [eX8_act_74, k4, e1]
          simp only [bN, e4]
          grind
        · rw [if_neg e4] at hw ⊢
          by_cases e5 : e = 5
          · rw [if_pos e5] at hw ⊢
            have cc : 0 ≤ b ∧ b < (A.2.2.2.1 a).1 := by
              split at hw
              · assumption
              · omega
            obtain ⟨w1, e1, e2, e3⟩ := r_turnOver (d := d + 1) g (i := b) (c := 1) cc.1 (by omega) (by omega)
            refine ⟨w1, Rn.ret ?_, e2.mono (by omega) (by omega), h.row ra e2 e3⟩
            rw [eX8_act_74, e1]
            simp only [bN, e5]
            grind
          · rw [if_neg e5] at hw ⊢
            have cc : 0 ≤ b ∧ 0 ≤ c ∧ b + c ≤ (A.2.2.2.1 a).1 := by
              split at hw
              · assumption
              · omega
            by_cases e6 : e = 6
            · rw [if_pos e6]
              obtain ⟨w1, e1, e2, e3⟩ := r_remove (d := d) g (i := b) (c := c) cc.1 cc.2.1 cc.2.2
              refine ⟨w1, Rn.ret ?_, e2.mono (by omega) (by omega), h.row ra e2 e3⟩
              rw [eX8_act_74, k4, e1]
              simp only [bN, e6]
              grind
            · have e7 : e = 7 := by omega
              rw [if_neg e6, if_pos e7]
              obtain ⟨w1, e1, e2, e3⟩ := r_turnOver (d := d + 1) g (i := b) (c := c) cc.1 cc.2.1 cc.2.2
              refine ⟨w1, Rn.ret ?_, e2.mono (by omega) (by omega), h.row ra e2 e3⟩
              rw [eX8_act_74, e1]
              simp only [bN, e7]
              grind
  · rw [if_neg ca] at hw
    omega
theorem m_act (h : StI w q A) {e a b c : Int} (he : 4 ≤ e ∧ e ≤ 11) (hw : whyN A e a b c = 0) (hp : e = 4 → c = 0 ∨ c = 1) (ht : e = 10 → 0 ≤ b ∧ b < 8) (h8 : e = 8 → a ≠ b) (h9 : e = 9 → a ≠ c) : ∃ w', Ex pro (d + 4) 88 w [rV q, rV e, iV a, iV b, iV c] = some (none, w') ∧ Fr w w' q (q + 16) ∧ StI w' q (actF A e a b c) := by
  have hq : 32 ≤ q := h.1.2.2.2.2.2.2
  have k1 := h.1.1.1
  have k2 := h.1.1.2.2.2
  have hT := h.2.2.2.2.2.2
  have k3 := hT.1.1
  by_cases e10 : e = 10
  · have hw' := hw
    unfold whyN at hw'
    rw [if_pos e10] at hw'
    have cc : (0 ≤ a ∧ a ≤ A.2.2.2.2.1) ∧ A.2.2.2.2.1 < 200 := by
      split at hw'
      · omega
      · split at hw' <;> omega
    obtain ⟨w1, e1, e2, e3⟩ := c_insert (d := d + 2) hT cc.2 cc.1 (ht e10)
    refine ⟨w1, xX8_act (Rn.ret ?_), e2.mono (by omega) (by omega), ?_⟩
    · rw [eX8_act_0, k2, e1]
      simp only [bN, e10]
      grind
    · unfold actF
      rw [if_pos e10]
      exact h.let (by rw [show q + 4 = q + 3 + 1 by omega]; exact e2) e3
  · by_cases e11 : e = 11
    · have hw' := hw
      unfold whyN at hw'
      rw [if_neg e10, if_pos e11] at hw'
      have cc : 0 ≤ a ∧ 0 ≤ b ∧ a + b ≤ A.2.2.2.2.1 := by
        split at hw'
        · assumption
        · omega
      obtain ⟨w1, e1, e2, e3⟩ := c_remove (d := d + 1) hT cc.1 cc.2.1 cc.2.2
      refine ⟨w1, xX8_act (Rn.ret ?_), e2.mono (by omega) (by omega), ?_⟩
      · rw [eX8_act_0, k2, e1]
        simp only [bN, e11]
        grind
      · unfold actF
        rw [if_neg e10, if_pos e11]
        exact h.let (by rw [show q + 4 = q + 3 + 1 by omega]; exact e2) e3
    · obtain ⟨w1, e1, e2, e3⟩ := l_act74 (d := d) h (e := e) (a := a) (b := b) (c := c) (by omega) hw hp h8 h9
      refine ⟨w1, xX8_act (Rn.cut ?_ e1), e2, e3⟩
      rw [eX8_act_0, if_pos ⟨by omega, by omega⟩, if_neg e10, if_pos ⟨by omega, by omega⟩, if_neg e11, if_pos k1, m_rowAt (d := d + 2) h a, bR_eq (by unfold isR; grind), if_pos ⟨by omega, by omega⟩]
      by_cases e8 : e = 8
      · rw [if_pos e8, if_pos k1, m_rowAt (d := d + 2) h b, bR_eq (by unfold isR; grind), if_pos e8]
      · rw [if_neg e8, if_pos ⟨by omega, by omega⟩, if_neg e8]
        by_cases e9 : e = 9
        · rw [if_pos e9, if_pos k1, m_rowAt (d := d + 2) h c, bR_eq (by unfold isR; grind), if_pos e9]
        · rw [if_neg e9, if_neg e9]
end ST3
