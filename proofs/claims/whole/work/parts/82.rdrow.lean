/-! ===== a line that tells a row: the class ===== -/
/-- fault, its place, where reading goes on, and the row -/
def rdB (t : Int → Int) (n most low : Int) : Nat → Int → Rw → Int × Int × Int × Rw
  | 0, p, R => (0, 0, p, R)
  | f + 1, p, R => if tkK t n most p = 2 then (if okB t (tkL t n most p).toNat (tkP t n most p) = 1 ∧ R.1 + tkL t n most p ≤ 600 then rdB t n most low f (tkT t n most p) (appR (btO t) low (tkP t n most p) (tkL t n most p).toNat R) else ((if okB t (tkL t n most p).toNat (tkP t n most p) = 1 then 4 else 2), tkP t n most p, p, R)) else (0, 0, p, R)
theorem setRowRR (A : Rm) (r : Int) (R R' : Rw) : setRow (setRow A r R) r R' = setRow A r R' := by
  unfold setRow
  simp only [Prod.mk.injEq, true_and, and_true]
  funext x
  by_cases c : x = r
  · simp only [c, if_true]
  · simp only [c, if_false]
theorem setRow1 (A : Rm) (r : Int) : setRow A r (A.2.2.2.1 r) = A := by
  unfold setRow
  obtain ⟨a, b, c, e, f⟩ := A
  simp only [Prod.mk.injEq, true_and, and_true]
  funext x
  by_cases z : x = r
  · simp only [z, if_true]
  · simp only [z, if_false]
theorem setRowAt (A : Rm) (r : Int) (R : Rw) : (setRow A r R).2.2.2.1 r = R := by
  unfold setRow
  simp only [if_true]
def Z0 : Rw := (0, fun _ => 0, 0, fun _ => 0)
def addRow (A : Rm) (c : Int) (R : Rw) : Rm := (A.1 + 1, A.2.1, (fun x => if x = A.1 then c else A.2.2.1 x), (fun x => if x = A.1 then R else A.2.2.2.1 x), A.2.2.2.2)
section RW
variable {d : Nat} {w : sW} {t : Int → Int} {n most p : Int}
theorem l_rowW {q r : Int} (hq : q = 36 ∨ q = 53) : ∀ (f : Nat) (c p : Int) (w : sW) (A : Rm), c + f = 940 → 0 ≤ c → 0 ≤ p → RdI w t n most p → FlI w 0 0 → WordI w → StI w q A → 0 ≤ r ∧ r < A.1 → ∃ w', Rn (Ex pro (d + 3)) mX8_readRow (92, [some (rV q), some (rV 34), some (rV (q + 5 + 3 * r)), some (iV c)], [], w) (none, w') ∧ RdI w' t n most (rdB t n most A.2.1 f p (A.2.2.2.1 r)).2.2.1 ∧ FlI w' (rdB t n most A.2.1 f p (A.2.2.2.1 r)).1 (rdB t n most A.2.1 f p (A.2.2.2.1 r)).2.1 ∧ WordI w' ∧ StI w' q (setRow A r (rdB t n most A.2.1 f p (A.2.2.2.1 r)).2.2.2) ∧ Mf w w' (rmP q) ∧ gv w' q 5 = gv w q 5
  | 0, c, p, w, A, hc, hc0, h0, h, hf, hW, hS, hr => by
    refine ⟨w, Rn.ret ?_, h, hf, hW, by unfold rdB; rw [setRow1]; exact hS, Mf.refl _ _, rfl⟩
    rw [eX8_readRow_92, if_neg (by omega)]
  | f + 1, c, p, w, A, hc, hc0, h0, h, hf, hW, hS, hr => by
    have k4 := h.1.1.1
    unfold rdB
    by_cases k : tkK t n most p = 2
    · rw [if_pos k]
      by_cases y : okB t (tkL t n most p).toNat (tkP t n most p) = 1 ∧ (A.2.2.2.1 r).1 + tkL t n most p ≤ 600
      · rw [if_pos y]
        obtain ⟨w1, a1, a2, a3, a4, a5, a6, a7⟩ := t_bitsY (d := d) hW h hf h0 hq hS hr k y.1 y.2
        have ti := tk_in (t := t) (n := n) (most := most) (p := p) (by omega)
        obtain ⟨w', g1, g2, g3, g4, g5, g6, g7⟩ := l_rowW hq f (c + 1) _ w1 _ (by omega) (by omega) (by omega) a2 a3 a4 a5 hr
        rw [setRowAt] at g2 g3 g5
        rw [setRowRR] at g5
        refine ⟨w', Rn.cut ?_ g1, g2, g3, g4, g5, a6.tr g6, g7.trans a7⟩
        rw [eX8_readRow_92, if_pos (by omega), if_pos k4, hf.1, if_pos rfl, if_pos k4, h.2.1, if_pos k, if_pos hS.1.1.1, a1]
        simp only [bN]
        rw [w32_eq (by omega) (by omega)]
      · rw [if_neg y]
        obtain ⟨w1, a1, a2, a3, a4, a5⟩ := t_bitsN (d := d) hW h hf h0 hS hr k y
        have nz : ¬ (if okB t (tkL t n most p).toNat (tkP t n most p) = 1 then (4 : Int) else 2) = 0 := by split <;> omega
        refine ⟨w1, Rn.cut (c' := (92, [some (rV q), some (rV 34), some (rV (q + 5 + 3 * r)), some (iV (c + 1))], [], w1)) ?_ (Rn.ret ?_), a2, a3, a4, by rw [setRow1]; exact hS.mf a5 (fun r j r0 r1 => by omega), a5.mono (fun r j z => by omega), a5.gvE (by omega)⟩
        · rw [eX8_readRow_92, if_pos (by omega), if_pos k4, hf.1, if_pos rfl, if_pos k4, h.2.1, if_pos k, if_pos hS.1.1.1, a1]
          simp only [bN]
          rw [w32_eq (by omega) (by omega)]
        · rw [eX8_readRow_92]
          by_cases z : c + 1 < 940
          · rw [if_pos z, if_pos a2.1.1.1, a3.1, if_neg nz]
          · rw [if_neg z]
    · rw [if_neg k]
      refine ⟨w, Rn.ret ?_, h, hf, hW, by rw [setRow1]; exact hS, Mf.refl _ _, rfl⟩
      rw [eX8_readRow_92, if_pos (by omega), if_pos k4, hf.1, if_pos rfl, if_pos k4, h.2.1, if_neg k]
theorem r_clear0 {a low : Int} (h : RowSh w a) (hl : 4 ≤ low ∧ low ≤ 32) : ∃ w', Ex pro (d + 1) 30 w [rV a] = some (none, w') ∧ Fr w w' a (a + 2) ∧ RowI w' a Z0 low := by
  refine ⟨sv (sv w a 2 0) a 3 0, ?_, Fr.trans (w' := sv w a 2 0) (Fr.svI (by omega) (by omega)) (Fr.svI (by omega) (by omega)), ?_, LvOk.zero hl, fun x x1 x2 => by change x < 0 at x2; omega⟩
  · refine xX5_clear (Rn.ret ?_)
    rw [eX5_clear_0, if_pos h.1]
    simp only [wl_eq, kdS]
    rw [if_pos h.1]
  · obtain ⟨s1, s2, s3, s4, s5, s6, s7, s8⟩ := h
    refine ⟨⟨s1, ?_, ?_, s4, s5, s6, s7, s8⟩, ?_, ?_, fun i i0 i1 => by change i < 0 at i1; omega, fun i i0 i1 => by change i < 0 at i1; omega⟩
    · rw [gvS, if_neg (by omega), gvS, if_neg (by omega)]; exact s2
    · rw [gvS, if_neg (by omega), gvS, if_neg (by omega)]; exact s3
    · rw [gvS, if_neg (by omega), gvSS]; rfl
    · rw [gvSS]; rfl
/-- a row more -/
theorem StI.add {w w1 : sW} {q c : Int} {A : Rm} (h : StI w q A) (hA : A.1 < 4) (f : Fr (sv w (q + 2) A.1 c) w1 (q + 5 + 3 * A.1) (q + 5 + 3 * A.1 + 2)) (g : RowI w1 (q + 5 + 3 * A.1) Z0 A.2.1) : StI (sv w1 q 3 (A.1 + 1)) q (addRow A c Z0) := by
  obtain ⟨h1, h2, h3, h4, h5, h6, h7⟩ := h
  have m0 := Mf.svI w (q + 2) A.1 c
  have m1 := f.mf
  have m2 := Mf.svI w1 q 3 (A.1 + 1)
  have mm : Mf w (sv w1 q 3 (A.1 + 1)) (fun r j => (r = q + 2 ∧ j = A.1) ∨ (q + 5 + 3 * A.1 ≤ r ∧ r ≤ q + 5 + 3 * A.1 + 2) ∨ (r = q ∧ j = 3)) := (m0.trans (m1.trans m2)).mono (fun r j z => by omega)
  have S0 : StSh (sv w (q + 2) A.1 c) q := by
    obtain ⟨b1, b2, b3, b4, b5, b6, b7⟩ := h1
    have Sc : ScSh (sv w (q + 2) A.1 c) (q + 3) := by
      have F0 : Fr w (sv w (q + 2) A.1 c) (q + 2) (q + 2) := Fr.svI (by omega) (by omega)
      exact b5.fr F0 (by omega)
    have F0 : Fr w (sv w (q + 2) A.1 c) (q + 2) (q + 2) := Fr.svI (by omega) (by omega)
    refine ⟨⟨b1.1, by rw [m0.gvE (by omega)]; exact b1.2.1, by rw [m0.gvE (by omega)]; exact b1.2.2.1, by rw [m0.gvE (by omega)]; exact b1.2.2.2⟩, b2, fun r r0 r1 => by rw [m0.gvE (by omega)]; exact b3 r r0 r1, b4, Sc, fun r r0 r1 => (b6 r r0 r1).fr F0 (by omega), b7⟩
  have S1 : StSh w1 q := S0.rowfr f (by omega) g.1.1
  have F2 : Fr w1 (sv w1 q 3 (A.1 + 1)) q q := Fr.svI (by omega) (by omega)
  have S2 : StSh (sv w1 q 3 (A.1 + 1)) q := by
    obtain ⟨b1, b2, b3, b4, b5, b6, b7⟩ := S1
    refine ⟨⟨b1.1, by rw [m2.gvE (by omega)]; exact b1.2.1, by rw [m2.gvE (by omega)]; exact b1.2.2.1, by rw [m2.gvE (by omega)]; exact b1.2.2.2⟩, b2, fun r r0 r1 => by rw [m2.gvE (by omega)]; exact b3 r r0 r1, b4, b5.fr F2 (by omega), fun r r0 r1 => (b6 r r0 r1).fr F2 (by omega), b7⟩
  refine ⟨S2, ⟨gvSS _ _ _ _, by rw [mm.gvE (by omega)]; exact h2.2⟩, ⟨by show 0 ≤ A.1 + 1; omega, by show A.1 + 1 ≤ 4; omega⟩, h4, fun r r0 r1 => ?_, fun r r0 r1 => ?_, h7.eq (mm.eqO (fun r j r0 r1 => by omega))⟩
  · change r < A.1 + 1 at r1
    show _ = (if r = A.1 then c else A.2.2.1 r)
    by_cases z : r = A.1
    · rw [if_pos z, z, m2.gvE (by omega), m1.gvE (by omega), gvSS]
    · rw [if_neg z, mm.gvE (by omega)]
      exact h5 r r0 (by omega)
  · change r < A.1 + 1 at r1
    show RowI _ _ (if r = A.1 then Z0 else A.2.2.2.1 r) _
    by_cases z : r = A.1
    · rw [if_pos z, z]
      exact g.eq (m2.eqO (fun r j r0 r1 => by omega))
    · rw [if_neg z]
      exact (h6 r r0 (by omega)).eq (mm.eqO (fun r' j r0 r1 => by omega))
end RW
