/-! ===== leaf lines, letters lines, all lines: the class ===== -/
def setLow (A : Rm) (l : Int) : Rm := (A.1, l, A.2.2)
def leafLn (t : Int → Int) (n most many : Int) (A : Rm) (p : Int) : Int × Int × Int × Rm :=
  if many = 0 then
    (if atN t n most (tkT t n most p) 4 32 then (0, 0, tkT t n most (tkT t n most p), setLow A (tkN t n most (tkT t n most p)))
    else (whyNm t n most (tkT t n most p), tkP t n most (tkT t n most p), tkT t n most p, A))
  else (3, tkP t n most p, p, A)
/-- fault, its place, where reading goes on, and the letters -/
def rdT (t : Int → Int) (n most : Int) : Nat → Int → Int × (Int → Int) → Int × Int × Int × (Int × (Int → Int))
  | 0, p, T => (0, 0, p, T)
  | f + 1, p, T => if tkK t n most p = 2 then (if okT t (tkL t n most p).toNat (tkP t n most p) = 1 ∧ T.1 + tkL t n most p ≤ 200 then rdT t n most f (tkT t n most p) (appT t (tkP t n most p) (tkL t n most p).toNat T) else ((if okT t (tkL t n most p).toNat (tkP t n most p) = 1 then 4 else 2), tkP t n most p, p, T)) else (0, 0, p, T)
def letLn (t : Int → Int) (n most told : Int) (A : Rm) (p : Int) : Int × Int × Int × Rm :=
  if told = 0 then ((rdT t n most 940 (tkT t n most p) A.2.2.2.2).1, (rdT t n most 940 (tkT t n most p) A.2.2.2.2).2.1, (rdT t n most 940 (tkT t n most p) A.2.2.2.2).2.2.1, setLet A (rdT t n most 940 (tkT t n most p) A.2.2.2.2).2.2.2)
  else (3, tkP t n most p, p, A)
/-- a line up to its sign -/
def lnF (t : Int → Int) (n most many told : Int) (A : Rm) (p : Int) : Int × Int × Int × Rm :=
  if tkW t n most p = 1 then leafLn t n most many A p else if tkW t n most p = 2 then rowLn t n most A p else if tkW t n most p = 3 then letLn t n most told A p else (1, tkP t n most p, p, A)
def toldF (t : Int → Int) (n most p told : Int) : Int := if tkW t n most p = 3 then 1 else told
/-- all lines: fault, its place, how many, the room -/
def rmF (t : Int → Int) (n most : Int) : Nat → Int → Int → Int → Rm → Int × Int × Int × Rm
  | 0, _, many, _, A => (0, 0, many, A)
  | f + 1, p, many, told, A =>
    if tkK t n most p = 0 then (0, 0, many, A)
    else if (lnF t n most many told A p).1 = 0 then
      (if atS t n most (lnF t n most many told A p).2.2.1 59 then rmF t n most f (tkT t n most (lnF t n most many told A p).2.2.1) (many + 1) (toldF t n most p told) (lnF t n most many told A p).2.2.2
      else (1, tkP t n most (lnF t n most many told A p).2.2.1, many + 1, (lnF t n most many told A p).2.2.2))
    else ((lnF t n most many told A p).1, (lnF t n most many told A p).2.1, many + 1, (lnF t n most many told A p).2.2.2)
theorem setLet2 (A : Rm) (T T' : Int × (Int → Int)) : setLet (setLet A T) T' = setLet A T' := rfl
theorem setLet1 (A : Rm) : setLet A A.2.2.2.2 = A := rfl
theorem tkW_rg (t : Int → Int) (n most p : Int) : (0 ≤ tkW t n most p ∧ tkW t n most p ≤ 23) ∧ (tkW t n most p ≠ 0 → tkK t n most p = 2) := by
  unfold tkW
  by_cases c : tkK t n most p = 2
  · rw [if_pos c]; exact ⟨wid_rg _, fun _ => c⟩
  · rw [if_neg c]; exact ⟨by omega, fun z => absurd rfl z⟩
section RR
variable {d : Nat} {w : sW} {t : Int → Int} {n most p : Int}
theorem t_leafLn {q many : Int} {A : Rm} (hW : WordI w) (h : RdI w t n most p) (hf : FlI w 0 0) (h0 : 0 ≤ p) (hq : q = 36 ∨ q = 53) (hS : StI w q A) (k : tkK t n most p = 2) (hA : many = 0 → A.1 = 0) : ∃ w', Ex pro (d + 4) 81 w [rV q, rV 34, iV (if many = 0 then 1 else 0)] = some (none, w') ∧ RdI w' t n most (leafLn t n most many A p).2.2.1 ∧ FlI w' (leafLn t n most many A p).1 (leafLn t n most many A p).2.1 ∧ WordI w' ∧ StI w' q (leafLn t n most many A p).2.2.2 ∧ Mf w w' (rmP q) ∧ gv w' q 5 = gv w q 5 := by
  have k4 := h.1.1.1
  unfold leafLn
  by_cases c : many = 0
  · have ti := tk_in (t := t) (n := n) (most := most) (p := p) (by omega)
    obtain ⟨w1, a1, a2, a3, a4, a5⟩ := t_next (d := d + 1) hW h hf (by omega) h0
    have S1 := hS.mf a5 (fun r j r0 r1 => by omega)
    rw [if_pos c, if_pos c]
    by_cases y : atN t n most (tkT t n most p) 4 32
    · rw [if_pos y]
      obtain ⟨w2, b1, b2, b3, b4, b5⟩ := t_numY (d := d) a4 a2 a3 (by omega) y
      have S2 := S1.mf b5 (fun r j r0 r1 => by omega)
      have m3 := Mf.svI w2 q 4 (tkN t n most (tkT t n most p))
      have F3 : Fr w2 (sv w2 q 4 (tkN t n most (tkT t n most p))) q q := Fr.svI (by omega) (by omega)
      have A0 := hA c
      refine ⟨sv w2 q 4 (tkN t n most (tkT t n most p)), xX8_readLeaf (Rn.ret ?_), b2.mf m3 (fun j j0 j1 => by omega) (fun j => by omega), ⟨by rw [m3.gvE (by omega)]; exact b3.1, by rw [m3.gvE (by omega)]; exact b3.2⟩, b4.eq (m3.eqO (fun r j r0 r1 => by omega)), ?_, (a5.trans (b5.trans m3)).mono (fun r j z => by omega), by rw [m3.gvE (by omega), b5.gvE (by omega), a5.gvE (by omega)]⟩
      · rw [eX8_readLeaf_0, if_neg (by omega), if_pos k4, a1]
        simp only [bN]
        rw [if_pos a2.1.1.1, b1]
        simp only [bI]
        rw [if_neg (by have := y.2.1; omega), if_pos S2.1.1.1, wl_eq]
      · obtain ⟨⟨b1, b2, b3, b4, b5, b6, b7⟩, h2, h3, h4, h5, h6, h7⟩ := S2
        refine ⟨⟨⟨b1.1, by rw [m3.gvE (by omega)]; exact b1.2.1, by rw [m3.gvE (by omega)]; exact b1.2.2.1, by rw [m3.gvE (by omega)]; exact b1.2.2.2⟩, b2, fun r r0 r1 => by rw [m3.gvE (by omega)]; exact b3 r r0 r1, b4, b5.fr F3 (by omega), fun r r0 r1 => (b6 r r0 r1).fr F3 (by omega), b7⟩, ⟨by rw [m3.gvE (by omega)]; exact h2.1, gvSS _ _ _ _⟩, h3, y.2, fun r r0 r1 => ?_, fun r r0 r1 => ?_, h7.fr F3 (by omega)⟩
        · change r < A.1 at r1; omega
        · change r < A.1 at r1; omega
    · rw [if_neg y]
      obtain ⟨w2, b1, b2, b3, b4, b5⟩ := t_numN (d := d) a4 a2 a3 y
      refine ⟨w2, xX8_readLeaf (Rn.ret ?_), b2, b3, b4, S1.mf b5 (fun r j r0 r1 => by omega), (a5.trans b5).mono (fun r j z => by omega), by rw [b5.gvE (by omega), a5.gvE (by omega)]⟩
      rw [eX8_readLeaf_0, if_neg (by omega), if_pos k4, a1]
      simp only [bN]
      rw [if_pos a2.1.1.1, b1]
      simp only [bI]
      rw [if_pos trivial]
  · rw [if_neg c, if_neg c]
    obtain ⟨w2, b1, b2, b3, b4⟩ := t_fail (d := d + 2) h hf 3
    refine ⟨w2, xX8_readLeaf (Rn.ret ?_), b2, b3, hW.mf34 b4, hS.mf b4 (fun r j r0 r1 => by omega), b4.mono (fun r j z => by omega), b4.gvE (by omega)⟩
    rw [eX8_readLeaf_0, if_pos rfl, if_pos k4, b1]
    simp only [bN]
theorem l_letW {q : Int} (hq : q = 36 ∨ q = 53) : ∀ (f : Nat) (c p : Int) (w : sW) (A : Rm), c + f = 940 → 0 ≤ c → 0 ≤ p → RdI w t n most p → FlI w 0 0 → WordI w → StI w q A → ∃ w', Rn (Ex pro (d + 3)) mX8_readLetters (24, [some (rV q), some (rV 34), some (iV c)], [], w) (none, w') ∧ RdI w' t n most (rdT t n most f p A.2.2.2.2).2.2.1 ∧ FlI w' (rdT t n most f p A.2.2.2.2).1 (rdT t n most f p A.2.2.2.2).2.1 ∧ WordI w' ∧ StI w' q (setLet A (rdT t n most f p A.2.2.2.2).2.2.2) ∧ Mf w w' (rmP q) ∧ gv w' q 5 = gv w q 5
  | 0, c, p, w, A, hc, hc0, h0, h, hf, hW, hS => by
    refine ⟨w, Rn.ret ?_, h, hf, hW, hS, Mf.refl _ _, rfl⟩
    rw [eX8_readLetters_24, if_neg (by omega)]
  | f + 1, c, p, w, A, hc, hc0, h0, h, hf, hW, hS => by
    have k4 := h.1.1.1
    unfold rdT
    by_cases k : tkK t n most p = 2
    · rw [if_pos k]
      by_cases y : okT t (tkL t n most p).toNat (tkP t n most p) = 1 ∧ A.2.2.2.2.1 + tkL t n most p ≤ 200
      · rw [if_pos y]
        obtain ⟨w1, a1, a2, a3, a4, a5, a6, a7⟩ := t_letsY (d := d) hW h hf h0 hq hS k y.1 y.2
        have ti := tk_in (t := t) (n := n) (most := most) (p := p) (by omega)
        obtain ⟨w', g1, g2, g3, g4, g5, g6, g7⟩ := l_letW hq f (c + 1) _ w1 _ (by omega) (by omega) (by omega) a2 a3 a4 a5
        refine ⟨w', Rn.cut ?_ g1, g2, g3, g4, g5, a6.tr g6, g7.trans a7⟩
        rw [eX8_readLetters_24, if_pos (by omega), if_pos k4, hf.1, if_pos rfl, if_pos k4, h.2.1, if_pos k, if_pos hS.1.1.1, a1]
        simp only [bN]
        rw [w32_eq (by omega) (by omega)]
      · rw [if_neg y]
        obtain ⟨w1, a1, a2, a3, a4, a5⟩ := t_letsN (d := d) hW h hf h0 hS k y
        have nz : ¬ (if okT t (tkL t n most p).toNat (tkP t n most p) = 1 then (4 : Int) else 2) = 0 := by split <;> omega
        refine ⟨w1, Rn.cut (c' := (24, [some (rV q), some (rV 34), some (iV (c + 1))], [], w1)) ?_ (Rn.ret ?_), a2, a3, a4, hS.mf a5 (fun r j r0 r1 => by omega), a5.mono (fun r j z => by omega), a5.gvE (by omega)⟩
        · rw [eX8_readLetters_24, if_pos (by omega), if_pos k4, hf.1, if_pos rfl, if_pos k4, h.2.1, if_pos k, if_pos hS.1.1.1, a1]
          simp only [bN]
          rw [w32_eq (by omega) (by omega)]
        · rw [eX8_readLetters_24]
          by_cases z : c + 1 < 940
          · rw [if_pos z, if_pos a2.1.1.1, a3.1, if_neg nz]
          · rw [if_neg z]
    · rw [if_neg k]
      refine ⟨w, Rn.ret ?_, h, hf, hW, hS, Mf.refl _ _, rfl⟩
      rw [eX8_readLetters_24, if_pos (by omega), if_pos k4, hf.1, if_pos rfl, if_pos k4, h.2.1, if_neg k]
theorem StI.told {w : sW} {q v : Int} {A : Rm} (h : StI w q A) : StI (sv w q 5 v) q A := by
  have m3 := Mf.svI w q 5 v
  have F3 : Fr w (sv w q 5 v) q q := Fr.svI (by omega) (by omega)
  obtain ⟨⟨b1, b2, b3, b4, b5, b6, b7⟩, h2, h3, h4, h5, h6, h7⟩ := h
  exact ⟨⟨⟨b1.1, by rw [m3.gvE (by omega)]; exact b1.2.1, by rw [m3.gvE (by omega)]; exact b1.2.2.1, by rw [m3.gvE (by omega)]; exact b1.2.2.2⟩, b2, fun r r0 r1 => by rw [m3.gvE (by omega)]; exact b3 r r0 r1, b4, b5.fr F3 (by omega), fun r r0 r1 => (b6 r r0 r1).fr F3 (by omega), b7⟩, ⟨by rw [m3.gvE (by omega)]; exact h2.1, by rw [m3.gvE (by omega)]; exact h2.2⟩, h3, h4, fun r r0 r1 => by rw [m3.gvE (by omega)]; exact h5 r r0 r1, fun r r0 r1 => (h6 r r0 r1).fr F3 (by omega), h7.fr F3 (by omega)⟩
theorem t_letLn {q told : Int} {A : Rm} (hW : WordI w) (h : RdI w t n most p) (hf : FlI w 0 0) (h0 : 0 ≤ p) (hq : q = 36 ∨ q = 53) (hS : StI w q A) (k : tkK t n most p = 2) (h5 : gv w q 5 = told) (h01 : told = 0 ∨ told = 1) : ∃ w', Ex pro (d + 4) 84 w [rV q, rV 34] = some (none, w') ∧ RdI w' t n most (letLn t n most told A p).2.2.1 ∧ FlI w' (letLn t n most told A p).1 (letLn t n most told A p).2.1 ∧ WordI w' ∧ StI w' q (letLn t n most told A p).2.2.2 ∧ Mf w w' (rmP q) ∧ gv w' q 5 = 1 := by
  have k4 := h.1.1.1
  have k8 := hS.1.1.1
  unfold letLn
  by_cases c : told = 0
  · rw [if_pos c]
    have ti := tk_in (t := t) (n := n) (most := most) (p := p) (by omega)
    have m0 := Mf.svI w q 5 1
    have S0 : StI (sv w q 5 1) q A := hS.told
    have R0 : RdI (sv w q 5 1) t n most p := h.mf m0 (fun j j0 j1 => by omega) (fun j => by omega)
    have F0 : FlI (sv w q 5 1) 0 0 := ⟨by rw [m0.gvE (by omega)]; exact hf.1, by rw [m0.gvE (by omega)]; exact hf.2⟩
    have W0 : WordI (sv w q 5 1) := hW.eq (m0.eqO (fun r j r0 r1 => by omega))
    obtain ⟨w1, a1, a2, a3, a4, a5⟩ := t_next (d := d + 1) W0 R0 F0 (by omega) h0
    have S1 := S0.mf a5 (fun r j r0 r1 => by omega)
    obtain ⟨w', g1, g2, g3, g4, g5, g6, g7⟩ := l_letW (d := d) hq 940 0 _ w1 _ (by omega) (by omega) (by omega) a2 a3 a4 S1
    refine ⟨w', xX8_readLetters (Rn.cut ?_ g1), g2, g3, g4, g5, ((m0.trans a5).mono (Q := rmP q) (fun r j z => by omega)).tr g6, by rw [g7, a5.gvE (by omega), gvSS]⟩
    rw [eX8_readLetters_0, if_pos k8, h5, if_pos c, if_pos ⟨k8, by omega⟩, wl_eq, if_pos R0.1.1.1, a1]
    simp only [bN]
  · rw [if_neg c]
    obtain ⟨w2, b1, b2, b3, b4⟩ := t_fail (d := d + 2) h hf 3
    refine ⟨w2, xX8_readLetters (Rn.ret ?_), b2, b3, hW.mf34 b4, hS.mf b4 (fun r j r0 r1 => by omega), b4.mono (fun r j z => by omega), by rw [b4.gvE (by omega)]; omega⟩
    rw [eX8_readLetters_0, if_pos k8, h5, if_neg c, if_pos k4, b1]
    simp only [bN]
end RR
