/-! ===== what readers ask and take: the class ===== -/
/-- the class's fault and its place -/
abbrev FlI (w : sW) (fa pl : Int) : Prop := gv w 34 10 = fa ∧ gv w 34 11 = pl
abbrev rdC (r j : Int) : Prop := r = 34 ∧ 3 ≤ j ∧ j ≤ 9
abbrev rdC' (r j : Int) : Prop := r = 34 ∧ 3 ≤ j ∧ j ≤ 11
section RH
variable {d : Nat} {w : sW} {t : Int → Int} {n most p fa pl : Int}
theorem t_goesOn (h : RdI w t n most p) (hf : FlI w fa pl) : Ex pro (d + 1) 19 w [rV 34] = some (some (iV (if fa = 0 ∧ ¬ tkK t n most p = 0 then 1 else 0)), w) := by
  have k := h.1.1.1
  refine xX4_goesOn (Rn.ret ?_)
  rw [eX4_goesOn_0, if_pos k, hf.1, h.2.1]
  by_cases c : fa = 0
  · rw [if_pos c, if_pos k]
    by_cases c2 : tkK t n most p = 0
    · rw [if_pos c2, if_neg (fun z => z.2 c2)]
    · rw [if_neg c2, if_pos ⟨c, c2⟩]
  · rw [if_neg c, if_neg (fun z => c z.1)]
theorem t_fail (h : RdI w t n most p) (hf : FlI w 0 pl) (e : Int) : ∃ w', Ex pro (d + 1) 20 w [rV 34, iV e] = some (none, w') ∧ RdI w' t n most p ∧ FlI w' e (tkP t n most p) ∧ Mf w w' rdC' := by
  have k := h.1.1.1
  have m1 := Mf.svI w 34 10 e
  have m2 := Mf.svI (sv w 34 10 e) 34 11 (tkP t n most p)
  have mm : Mf w (sv (sv w 34 10 e) 34 11 (tkP t n most p)) (fun r j => r = 34 ∧ (j = 10 ∨ j = 11)) := (m1.trans m2).mono (fun r j z => by omega)
  refine ⟨_, xX4_fail (Rn.ret ?_), h.mf mm (fun j j0 j1 => by omega) (fun j => by omega), ⟨by rw [m2.gvE (by omega), gvSS], gvSS _ _ _ _⟩, mm.mono (fun r j z => by omega)⟩
  have k1 : kd (sv w 34 10 e) 34 = 4 := k
  have g5 : gv (sv w 34 10 e) 34 5 = tkP t n most p := by rw [m1.gvE (by omega)]; exact h.2.2.1
  rw [eX4_fail_0, if_pos k, hf.1, if_pos rfl, if_pos k, wl_eq, if_pos k1, if_pos k1, g5, wl_eq]
theorem t_failF (h : RdI w t n most p) (hf : FlI w fa pl) (z : fa ≠ 0) (e : Int) : Ex pro (d + 1) 20 w [rV 34, iV e] = some (none, w) := by
  refine xX4_fail (Rn.ret ?_)
  rw [eX4_fail_0, if_pos h.1.1.1, hf.1, if_neg z]
theorem t_isAtName (h : RdI w t n most p) : Ex pro (d + 1) 21 w [rV 34] = some (some (iV (if tkK t n most p = 2 ∧ tkW t n most p = 0 then 1 else 0)), w) := by
  have k := h.1.1.1
  refine xX4_isAtName (Rn.ret ?_)
  rw [eX4_isAtName_0, if_pos k, h.2.1, h.2.2.2.2.2.2.2]
  by_cases c : tkK t n most p = 2
  · rw [if_pos c, if_pos k]
    by_cases c2 : tkW t n most p = 0
    · rw [if_pos c2, if_pos ⟨c, c2⟩]
    · rw [if_neg c2, if_neg (fun z => c2 z.2)]
  · rw [if_neg c, if_neg (fun z => c z.1)]
abbrev atS (t : Int → Int) (n most p c : Int) : Prop := tkK t n most p = 4 ∧ tkS t n most p = c
theorem t_isAtSign (h : RdI w t n most p) (c : Int) : Ex pro (d + 1) 22 w [rV 34, iV c] = some (some (iV (if atS t n most p c then 1 else 0)), w) := by
  have k := h.1.1.1
  refine xX4_isAtSign (Rn.ret ?_)
  rw [eX4_isAtSign_0, if_pos k, h.2.1]
  by_cases z : tkK t n most p = 4
  · rw [if_pos z, if_pos k, h.2.2.2.2.2.2.1 z]
    by_cases y : tkS t n most p = c
    · rw [if_pos y, if_pos ⟨z, y⟩]
    · rw [if_neg y, if_neg (fun u => y u.2)]
  · rw [if_neg z, if_neg (fun u => z u.1)]
/-- on to the next token -/
theorem t_next (hW : WordI w) (h : RdI w t n most p) (hf : FlI w fa pl) (h2 : 2 ≤ tkK t n most p) (h0 : 0 ≤ p) : ∃ w', Ex pro (d + 2) 16 w [rV 34] = some (none, w') ∧ RdI w' t n most (tkT t n most p) ∧ FlI w' fa pl ∧ WordI w' ∧ Mf w w' rdC := by
  have ti := tk_in h2
  obtain ⟨w', a1, a2, a3⟩ := t_advance (d := d) (p := tkT t n most p) hW h.1 (h.2.2.2.1 h2) (by omega) ti.2.2.2
  exact ⟨w', a1, a2, ⟨by rw [a3.gvE (by omega)]; exact hf.1, by rw [a3.gvE (by omega)]; exact hf.2⟩, hW.eq (a3.eqO (fun r j r0 r1 => by omega)), a3⟩
theorem WordI.mf34 {w w' : sW} (h : WordI w) (g : Mf w w' rdC') : WordI w' := h.eq (g.eqO (fun r j r0 r1 => by omega))
/-- a sign that must come -/
theorem t_signY (hW : WordI w) (h : RdI w t n most p) (hf : FlI w 0 pl) (h0 : 0 ≤ p) {c : Int} (y : atS t n most p c) : ∃ w', Ex pro (d + 3) 23 w [rV 34, iV c] = some (none, w') ∧ RdI w' t n most (tkT t n most p) ∧ FlI w' 0 pl ∧ WordI w' ∧ Mf w w' rdC' := by
  have k := h.1.1.1
  obtain ⟨w', a1, a2, a3, a4, a5⟩ := t_next (d := d) hW h hf (by omega) h0
  refine ⟨w', xX4_takeSign (Rn.ret ?_), a2, a3, a4, a5.mono (fun r j z => by omega)⟩
  rw [eX4_takeSign_0, if_pos k, hf.1, if_pos rfl, if_pos k, t_isAtSign h c]
  simp only [bI, ite10]
  rw [if_pos y, if_pos k, a1]
  simp only [bN]
theorem t_signN (hW : WordI w) (h : RdI w t n most p) (hf : FlI w 0 pl) {c : Int} (y : ¬ atS t n most p c) : ∃ w', Ex pro (d + 3) 23 w [rV 34, iV c] = some (none, w') ∧ RdI w' t n most p ∧ FlI w' 1 (tkP t n most p) ∧ WordI w' ∧ Mf w w' rdC' := by
  have k := h.1.1.1
  obtain ⟨w', a1, a2, a3, a4⟩ := t_fail (d := d + 1) h hf 1
  refine ⟨w', xX4_takeSign (Rn.ret ?_), a2, a3, hW.mf34 a4, a4⟩
  rw [eX4_takeSign_0, if_pos k, hf.1, if_pos rfl, if_pos k, t_isAtSign h c]
  simp only [bI, ite10]
  rw [if_neg y, if_pos k, a1]
  simp only [bN]
theorem t_signF (h : RdI w t n most p) (hf : FlI w fa pl) (z : fa ≠ 0) (c : Int) : Ex pro (d + 3) 23 w [rV 34, iV c] = some (none, w) := by
  refine xX4_takeSign (Rn.ret ?_)
  rw [eX4_takeSign_0, if_pos h.1.1.1, hf.1, if_neg z]
/-- a number that must come -/
abbrev atN (t : Int → Int) (n most p a b : Int) : Prop := tkK t n most p = 3 ∧ a ≤ tkN t n most p ∧ tkN t n most p ≤ b
def whyNm (t : Int → Int) (n most p : Int) : Int := if tkK t n most p = 3 then 2 else 1
theorem t_numY (hW : WordI w) (h : RdI w t n most p) (hf : FlI w 0 pl) (h0 : 0 ≤ p) {a b : Int} (y : atN t n most p a b) : ∃ w', Ex pro (d + 3) 25 w [rV 34, iV a, iV b] = some (some (iV (tkN t n most p)), w') ∧ RdI w' t n most (tkT t n most p) ∧ FlI w' 0 pl ∧ WordI w' ∧ Mf w w' rdC' := by
  have k := h.1.1.1
  have g6 := h.2.2.2.2.2.1 y.1
  obtain ⟨w', a1, a2, a3, a4, a5⟩ := t_next (d := d) hW h hf (by omega) h0
  refine ⟨w', xX4_takeNumber (Rn.ret ?_), a2, a3, a4, a5.mono (fun r j z => by omega)⟩
  rw [eX4_takeNumber_0, if_pos k, hf.1, if_pos rfl, if_pos k, h.2.1, if_pos y.1, if_pos k, g6, if_neg (by omega), if_pos k, if_neg (by omega), if_pos k, if_pos k, a1]
  simp only [bN]
theorem t_numN (hW : WordI w) (h : RdI w t n most p) (hf : FlI w 0 pl) {a b : Int} (y : ¬ atN t n most p a b) : ∃ w', Ex pro (d + 3) 25 w [rV 34, iV a, iV b] = some (some (iV (-1)), w') ∧ RdI w' t n most p ∧ FlI w' (whyNm t n most p) (tkP t n most p) ∧ WordI w' ∧ Mf w w' rdC' := by
  have k := h.1.1.1
  unfold whyNm
  by_cases k3 : tkK t n most p = 3
  · have g6 := h.2.2.2.2.2.1 k3
    rw [if_pos k3]
    obtain ⟨w', a1, a2, a3, a4⟩ := t_fail (d := d + 1) h hf 2
    refine ⟨w', xX4_takeNumber (Rn.ret ?_), a2, a3, hW.mf34 a4, a4⟩
    rw [eX4_takeNumber_0, if_pos k, hf.1, if_pos rfl, if_pos k, h.2.1, if_pos k3, if_pos k, g6, if_pos k, if_pos k, if_pos k, a1]
    simp only [bN]
    by_cases u : tkN t n most p < a
    · rw [if_pos u]
    · rw [if_neg u, if_pos (by have := fun z => y ⟨k3, by omega, z⟩; omega)]
  · rw [if_neg k3]
    obtain ⟨w', a1, a2, a3, a4⟩ := t_fail (d := d + 1) h hf 1
    refine ⟨w', xX4_takeNumber (Rn.ret ?_), a2, a3, hW.mf34 a4, a4⟩
    rw [eX4_takeNumber_0, if_pos k, hf.1, if_pos rfl, if_pos k, h.2.1, if_neg k3, if_pos k, a1]
    simp only [bN]
theorem t_numF (h : RdI w t n most p) (hf : FlI w fa pl) (z : fa ≠ 0) (a b : Int) : Ex pro (d + 3) 25 w [rV 34, iV a, iV b] = some (some (iV (-1)), w) := by
  refine xX4_takeNumber (Rn.ret ?_)
  rw [eX4_takeNumber_0, if_pos h.1.1.1, hf.1, if_neg z]
/-- the name of a row that must come -/
def rowN (A : Rm) (t : Int → Int) (n most p : Int) : Int := nmb A.2.2.1 (tk32 t n most p) 0 A.1.toNat
abbrev isNm (t : Int → Int) (n most p : Int) : Prop := tkK t n most p = 2 ∧ tkW t n most p = 0
theorem t_rowY {q : Int} {A : Rm} (hW : WordI w) (h : RdI w t n most p) (hf : FlI w 0 pl) (h0 : 0 ≤ p) (hS : StI w q A) (hq : q = 36 ∨ q = 53) {a : Int} (y : isNm t n most p) (y1 : rowN A t n most p ≠ -1) (y2 : rowN A t n most p ≠ a) : ∃ w', Ex pro (d + 3) 26 w [rV 34, rV q, iV a] = some (some (iV (rowN A t n most p)), w') ∧ RdI w' t n most (tkT t n most p) ∧ FlI w' 0 pl ∧ WordI w' ∧ Mf w w' rdC' := by
  have k := h.1.1.1
  have g8 := h.2.2.2.2.1 y.1
  obtain ⟨w', a1, a2, a3, a4, a5⟩ := t_next (d := d) hW h hf (by omega) h0
  refine ⟨w', xX4_takeRow (Rn.ret ?_), a2, a3, a4, a5.mono (fun r j z => by omega)⟩
  rw [eX4_takeRow_0, if_pos k, hf.1, if_pos rfl, if_pos k, t_isAtName h]
  simp only [bI, ite10]
  rw [if_pos y, if_pos k, if_pos hS.1.1.1, g8, m_numberOf hS]
  simp only []
  change (if rowN A t n most p = -1 then _ else if rowN A t n most p = a then _ else _) = _
  rw [if_neg y1, if_neg y2, if_pos k, a1]
  simp only [bN]
  rfl
theorem t_rowN {q : Int} {A : Rm} (hW : WordI w) (h : RdI w t n most p) (hf : FlI w 0 pl) (hS : StI w q A) {a : Int} (y : ¬ (isNm t n most p ∧ rowN A t n most p ≠ -1 ∧ rowN A t n most p ≠ a)) : ∃ w', Ex pro (d + 3) 26 w [rV 34, rV q, iV a] = some (some (iV (-1)), w') ∧ RdI w' t n most p ∧ FlI w' (if isNm t n most p then 3 else 1) (tkP t n most p) ∧ WordI w' ∧ Mf w w' rdC' := by
  have k := h.1.1.1
  by_cases z : isNm t n most p
  · have g8 := h.2.2.2.2.1 z.1
    rw [if_pos z]
    obtain ⟨w', a1, a2, a3, a4⟩ := t_fail (d := d + 1) h hf 3
    refine ⟨w', xX4_takeRow (Rn.ret ?_), a2, a3, hW.mf34 a4, a4⟩
    rw [eX4_takeRow_0, if_pos k, hf.1, if_pos rfl, if_pos k, t_isAtName h]
    simp only [bI, ite10]
    rw [if_pos z, if_pos k, if_pos hS.1.1.1, g8, m_numberOf hS]
    simp only []
    change (if rowN A t n most p = -1 then _ else if rowN A t n most p = a then _ else _) = _
    by_cases u : rowN A t n most p = -1
    · rw [if_pos u, if_pos k, a1]
      simp only [bN]
    · rw [if_neg u, if_pos (by
        by_cases v : rowN A t n most p = a
        · exact v
        · exact absurd ⟨z, u, v⟩ y), if_pos k, a1]
      simp only [bN]
  · rw [if_neg z]
    obtain ⟨w', a1, a2, a3, a4⟩ := t_fail (d := d + 1) h hf 1
    refine ⟨w', xX4_takeRow (Rn.ret ?_), a2, a3, hW.mf34 a4, a4⟩
    rw [eX4_takeRow_0, if_pos k, hf.1, if_pos rfl, if_pos k, t_isAtName h]
    simp only [bI, ite10]
    rw [if_neg z, if_pos k, a1]
    simp only [bN]
theorem t_rowF {q a : Int} (h : RdI w t n most p) (hf : FlI w fa pl) (z : fa ≠ 0) : Ex pro (d + 3) 26 w [rV 34, rV q, iV a] = some (some (iV (-1)), w) := by
  refine xX4_takeRow (Rn.ret ?_)
  rw [eX4_takeRow_0, if_pos h.1.1.1, hf.1, if_neg z]
/-- a comparison that must come -/
abbrev atC (t : Int → Int) (n most p : Int) : Prop := tkK t n most p = 4 ∧ 60 ≤ tkS t n most p ∧ tkS t n most p ≤ 62
theorem t_cmpY (hW : WordI w) (h : RdI w t n most p) (hf : FlI w 0 pl) (h0 : 0 ≤ p) (y : atC t n most p) : ∃ w', Ex pro (d + 3) 24 w [rV 34] = some (some (iV (tkS t n most p)), w') ∧ RdI w' t n most (tkT t n most p) ∧ FlI w' 0 pl ∧ WordI w' ∧ Mf w w' rdC' := by
  have k := h.1.1.1
  have g7 := h.2.2.2.2.2.2.1 y.1
  obtain ⟨w', a1, a2, a3, a4, a5⟩ := t_next (d := d) hW h hf (by omega) h0
  refine ⟨w', xX4_takeComparison (Rn.ret ?_), a2, a3, a4, a5.mono (fun r j z => by omega)⟩
  rw [eX4_takeComparison_0, if_pos k, hf.1, if_pos rfl, if_pos k, t_isAtSign h 60]
  simp only [bI, ite10]
  by_cases c1 : atS t n most p 60
  · rw [if_pos c1, if_pos k, if_pos k, a1, g7]
    simp only [bN]
  · rw [if_neg c1, if_pos k, t_isAtSign h 61]
    simp only [ite10]
    by_cases c2 : atS t n most p 61
    · rw [if_pos c2, if_pos k, if_pos k, a1, g7]
      simp only [bN]
    · rw [if_neg c2, if_pos k, t_isAtSign h 62]
      simp only [ite10]
      rw [if_pos (show atS t n most p 62 from ⟨y.1, by omega⟩), if_pos k, if_pos k, a1, g7]
      simp only [bN]
theorem t_cmpN (hW : WordI w) (h : RdI w t n most p) (hf : FlI w 0 pl) (y : ¬ atC t n most p) : ∃ w', Ex pro (d + 3) 24 w [rV 34] = some (some (iV 0), w') ∧ RdI w' t n most p ∧ FlI w' 1 (tkP t n most p) ∧ WordI w' ∧ Mf w w' rdC' := by
  have k := h.1.1.1
  obtain ⟨w', a1, a2, a3, a4⟩ := t_fail (d := d + 1) h hf 1
  refine ⟨w', xX4_takeComparison (Rn.ret ?_), a2, a3, hW.mf34 a4, a4⟩
  rw [eX4_takeComparison_0, if_pos k, hf.1, if_pos rfl, if_pos k, t_isAtSign h 60]
  simp only [bI, ite10]
  rw [if_neg (fun z : atS t n most p 60 => y ⟨z.1, by omega, by omega⟩), if_pos k, t_isAtSign h 61]
  simp only [ite10]
  rw [if_neg (fun z : atS t n most p 61 => y ⟨z.1, by omega, by omega⟩), if_pos k, t_isAtSign h 62]
  simp only [ite10]
  rw [if_neg (fun z : atS t n most p 62 => y ⟨z.1, by omega, by omega⟩), if_pos k, a1]
  simp only [bN]
theorem t_cmpF (h : RdI w t n most p) (hf : FlI w fa pl) (z : fa ≠ 0) : Ex pro (d + 3) 24 w [rV 34] = some (some (iV 0), w) := by
  refine xX4_takeComparison (Rn.ret ?_)
  rw [eX4_takeComparison_0, if_pos h.1.1.1, hf.1, if_neg z]
/-- a text is opened -/
theorem t_open (hW : WordI w) (hk : kd w 34 = 4) (hT : TpI w 32 0 1 33 t n) (hm : 0 ≤ most ∧ most ≤ 940) : ∃ w', Ex pro (d + 3) 15 w [rV 34, rV 33, iV n, iV most] = some (none, w') ∧ RdI w' t n most 0 ∧ FlI w' 0 0 ∧ WordI w' ∧ Mf w w' (fun r j => r = 34 ∧ j ≤ 11) := by
  obtain ⟨⟨a1, a2, a3, a4, a5, a6⟩, a7, a8, a9⟩ := hT
  have m0 := Mf.svI w 34 0 33
  have m1 := Mf.svI (sv w 34 0 33) 34 1 n
  have m2 := Mf.svI (sv (sv w 34 0 33) 34 1 n) 34 2 most
  have m3 := Mf.svI (sv (sv (sv w 34 0 33) 34 1 n) 34 2 most) 34 3 0
  have m10 := Mf.svI (sv (sv (sv (sv w 34 0 33) 34 1 n) 34 2 most) 34 3 0) 34 10 0
  have m11 := Mf.svI (sv (sv (sv (sv (sv w 34 0 33) 34 1 n) 34 2 most) 34 3 0) 34 10 0) 34 11 0
  have mm : Mf w (sv (sv (sv (sv (sv (sv w 34 0 33) 34 1 n) 34 2 most) 34 3 0) 34 10 0) 34 11 0) (fun r j => r = 34 ∧ j ≤ 11) := (m0.trans (m1.trans (m2.trans (m3.trans (m10.trans m11))))).mono (fun r j z => by omega)
  have T : TxI (sv (sv (sv (sv (sv (sv w 34 0 33) 34 1 n) 34 2 most) 34 3 0) 34 10 0) 34 11 0) t n most := ⟨⟨hk, by rw [m11.gvE (by omega), m10.gvE (by omega), m3.gvE (by omega), m2.gvE (by omega), m1.gvE (by omega), gvSS], by rw [m11.gvE (by omega), m10.gvE (by omega), m3.gvE (by omega), m2.gvE (by omega), gvSS], by rw [m11.gvE (by omega), m10.gvE (by omega), m3.gvE (by omega), gvSS]⟩, ⟨a2, a3⟩, a8, hm, fun i i0 i1 => by rw [mm.gvE (by omega)]; exact a9 i i0 i1⟩
  have W6 : WordI (sv (sv (sv (sv (sv (sv w 34 0 33) 34 1 n) 34 2 most) 34 3 0) 34 10 0) 34 11 0) := hW.eq (mm.eqO (fun r j r0 r1 => by omega))
  obtain ⟨w', b1, b2, b3⟩ := t_advance (d := d) (p := 0) W6 T (by rw [m11.gvE (by omega), m10.gvE (by omega), gvSS]) (by omega) a8.1
  refine ⟨w', xX4_open (Rn.ret ?_), b2, ⟨by rw [b3.gvE (by omega), m11.gvE (by omega), gvSS], by rw [b3.gvE (by omega), gvSS]⟩, W6.eq (b3.eqO (fun r j r0 r1 => by omega)), (mm.trans b3).mono (fun r j z => by omega)⟩
  have k20 : kd (sv w 34 0 33) 33 = 20 := a2
  have l94 : ln (sv w 34 0 33) 33 = 940 := a3
  rw [eX4_open_0, if_pos hk, wl_eq, k20, l94, if_pos (by omega)]
  by_cases c : n < 940
  · rw [if_pos c]
    simp only [wl_eq, kdS, hk, if_true]
    rw [b1]
    simp only [bN]
  · have n94 : n = 940 := by omega
    rw [n94] at b1
    rw [if_neg c, if_pos (by omega)]
    simp only [wl_eq, kdS, hk, if_true]
    rw [b1]
    simp only [bN]
end RH
