/-! ===== all the lines of a room: the class ===== -/
theorem rdB_z (t : Int → Int) (n most low : Int) : ∀ (f : Nat) (p : Int) (R : Rw), p ≤ (rdB t n most low f p R).2.2.1 ∧ ((rdB t n most low f p R).1 = 0 → (rdB t n most low f p R).2.1 = 0)
  | 0, p, R => ⟨Int.le_refl _, fun _ => rfl⟩
  | f + 1, p, R => by
    unfold rdB
    by_cases k : tkK t n most p = 2
    · rw [if_pos k]
      by_cases y : okB t (tkL t n most p).toNat (tkP t n most p) = 1 ∧ R.1 + tkL t n most p ≤ 600
      · rw [if_pos y]
        have ti := tk_in (t := t) (n := n) (most := most) (p := p) (by omega)
        have g := rdB_z t n most low f (tkT t n most p) (appR (btO t) low (tkP t n most p) (tkL t n most p).toNat R)
        exact ⟨by have := g.1; omega, g.2⟩
      · rw [if_neg y]
        refine ⟨Int.le_refl _, fun z => ?_⟩
        change (if okB t (tkL t n most p).toNat (tkP t n most p) = 1 then (4 : Int) else 2) = 0 at z
        split at z <;> omega
    · rw [if_neg k]
      exact ⟨Int.le_refl _, fun _ => rfl⟩
theorem rdT_z (t : Int → Int) (n most : Int) : ∀ (f : Nat) (p : Int) (T : Int × (Int → Int)), p ≤ (rdT t n most f p T).2.2.1 ∧ ((rdT t n most f p T).1 = 0 → (rdT t n most f p T).2.1 = 0)
  | 0, p, T => ⟨Int.le_refl _, fun _ => rfl⟩
  | f + 1, p, T => by
    unfold rdT
    by_cases k : tkK t n most p = 2
    · rw [if_pos k]
      by_cases y : okT t (tkL t n most p).toNat (tkP t n most p) = 1 ∧ T.1 + tkL t n most p ≤ 200
      · rw [if_pos y]
        have ti := tk_in (t := t) (n := n) (most := most) (p := p) (by omega)
        have g := rdT_z t n most f (tkT t n most p) (appT t (tkP t n most p) (tkL t n most p).toNat T)
        exact ⟨by have := g.1; omega, g.2⟩
      · rw [if_neg y]
        refine ⟨Int.le_refl _, fun z => ?_⟩
        change (if okT t (tkL t n most p).toNat (tkP t n most p) = 1 then (4 : Int) else 2) = 0 at z
        split at z <;> omega
    · rw [if_neg k]
      exact ⟨Int.le_refl _, fun _ => rfl⟩
theorem lnF_z (t : Int → Int) (n most many told : Int) (A : Rm) (p : Int) : p ≤ (lnF t n most many told A p).2.2.1 ∧ ((lnF t n most many told A p).1 = 0 → (lnF t n most many told A p).2.1 = 0) := by
  have wr := tkW_rg t n most p
  unfold lnF
  by_cases c1 : tkW t n most p = 1
  · have ti := tk_in (t := t) (n := n) (most := most) (p := p) (by have := wr.2 (by omega); omega)
    rw [if_pos c1]
    unfold leafLn
    by_cases c : many = 0
    · rw [if_pos c]
      by_cases y : atN t n most (tkT t n most p) 4 32
      · rw [if_pos y]
        have t2 := tk_in (t := t) (n := n) (most := most) (p := tkT t n most p) (by omega)
        exact ⟨by show p ≤ tkT t n most (tkT t n most p); omega, fun _ => rfl⟩
      · rw [if_neg y]
        refine ⟨by show p ≤ tkT t n most p; omega, fun z => ?_⟩
        change whyNm t n most (tkT t n most p) = 0 at z
        unfold whyNm at z
        split at z <;> omega
    · rw [if_neg c]
      exact ⟨Int.le_refl _, fun z => by change (3 : Int) = 0 at z; omega⟩
  · rw [if_neg c1]
    by_cases c2 : tkW t n most p = 2
    · have ti := tk_in (t := t) (n := n) (most := most) (p := p) (by have := wr.2 (by omega); omega)
      rw [if_pos c2]
      unfold rowLn
      by_cases c4 : A.1 < 4
      · rw [if_pos c4]
        by_cases c : isNm t n most (tkT t n most p)
        · rw [if_pos c]
          by_cases c3 : rowN A t n most (tkT t n most p) = -1
          · rw [if_pos c3]
            have t2 := tk_in (t := t) (n := n) (most := most) (p := tkT t n most p) (by omega)
            have g := rdB_z t n most A.2.1 940 (tkT t n most (tkT t n most p)) Z0
            exact ⟨Int.le_trans (by omega) g.1, g.2⟩
          · rw [if_neg c3]
            exact ⟨by show p ≤ tkT t n most p; omega, fun z => by change (3 : Int) = 0 at z; omega⟩
        · rw [if_neg c]
          exact ⟨by show p ≤ tkT t n most p; omega, fun z => by change (1 : Int) = 0 at z; omega⟩
      · rw [if_neg c4]
        exact ⟨Int.le_refl _, fun z => by change (4 : Int) = 0 at z; omega⟩
    · rw [if_neg c2]
      by_cases c3 : tkW t n most p = 3
      · have ti := tk_in (t := t) (n := n) (most := most) (p := p) (by have := wr.2 (by omega); omega)
        rw [if_pos c3]
        unfold letLn
        by_cases c : told = 0
        · rw [if_pos c]
          have g := rdT_z t n most 940 (tkT t n most p) A.2.2.2.2
          exact ⟨Int.le_trans (by omega) g.1, g.2⟩
        · rw [if_neg c]
          exact ⟨Int.le_refl _, fun z => by change (3 : Int) = 0 at z; omega⟩
      · rw [if_neg c3]
        exact ⟨Int.le_refl _, fun z => by change (1 : Int) = 0 at z; omega⟩
section RR2
variable {d : Nat} {w : sW} {t : Int → Int} {n most p : Int}
theorem t_line {q many told c : Int} {A : Rm} (hW : WordI w) (h : RdI w t n most p) (hf : FlI w 0 0) (h0 : 0 ≤ p) (hq : q = 36 ∨ q = 53) (hS : StI w q A) (hA : many = 0 → A.1 = 0) (h5 : gv w q 5 = told) (h01 : told = 0 ∨ told = 1) (hm : 0 ≤ many ∧ many ≤ c) (hc : c < 940) (kz : ¬ tkK t n most p = 0) : ∃ w1, RdI w1 t n most (lnF t n most many told A p).2.2.1 ∧ FlI w1 (lnF t n most many told A p).1 (lnF t n most many told A p).2.1 ∧ WordI w1 ∧ StI w1 q (lnF t n most many told A p).2.2.2 ∧ Mf w w1 (rmP q) ∧ gv w1 q 5 = toldF t n most p told ∧ ∀ w2, Ex pro (d + 4) 23 w1 [rV 34, iV 59] = some (none, w2) → sg (Ex pro (d + 4)) mX8_readLines 2000 28 [some (rV q), some (rV 34), some (iV many), some (iV c)] [] w = some (.inl (28, [some (rV q), some (rV 34), some (iV (many + 1)), some (iV (c + 1))], [], w2)) := by
  have k4 := h.1.1.1
  have k8 := hS.1.1.1
  have wr := tkW_rg t n most p
  have w9 : gv w 34 9 = tkW t n most p := h.2.2.2.2.2.2.2
  unfold lnF toldF
  by_cases c1 : tkW t n most p = 1
  · rw [if_pos c1, if_neg (by omega)]
    obtain ⟨w1, a1, a2, a3, a4, a5, a6, a7⟩ := t_leafLn (d := d) hW h hf h0 hq hS (wr.2 (by omega)) hA
    refine ⟨w1, a2, a3, a4, a5, a6, a7.trans h5, fun w2 e => ?_⟩
    rw [eX8_readLines_28, if_pos hc, if_pos k4, t_goesOn h hf]
    simp only [bI, ite10]
    rw [if_pos ⟨trivial, kz⟩, if_pos k4, w9, if_pos (by omega), if_pos c1]
    by_cases z : many = 0
    · rw [if_pos z] at a1
      rw [if_pos z, if_pos k8, a1]
      simp only [bN]
      rw [if_pos a2.1.1.1, e]
      simp only []
      rw [w32_eq (by omega) (by omega), w32_eq (by omega) (by omega)]
    · rw [if_neg z] at a1
      rw [if_neg z, if_pos k8, a1]
      simp only [bN]
      rw [if_pos a2.1.1.1, e]
      simp only []
      rw [w32_eq (by omega) (by omega), w32_eq (by omega) (by omega)]
  · rw [if_neg c1]
    by_cases c2 : tkW t n most p = 2
    · rw [if_pos c2, if_neg (by omega)]
      obtain ⟨w1, a1, a2, a3, a4, a5, a6, a7⟩ := t_rowLn (d := d) hW h hf h0 hq hS (wr.2 (by omega))
      refine ⟨w1, a2, a3, a4, a5, a6, a7.trans h5, fun w2 e => ?_⟩
      rw [eX8_readLines_28, if_pos hc, if_pos k4, t_goesOn h hf]
      simp only [bI, ite10]
      rw [if_pos ⟨trivial, kz⟩, if_pos k4, w9, if_pos (by omega), if_neg c1, if_pos k4, if_pos (by omega), if_pos c2, if_pos k8, a1]
      simp only [bN]
      rw [if_pos a2.1.1.1, e]
      simp only []
      rw [w32_eq (by omega) (by omega), w32_eq (by omega) (by omega)]
    · rw [if_neg c2]
      by_cases c3 : tkW t n most p = 3
      · rw [if_pos c3, if_pos c3]
        obtain ⟨w1, a1, a2, a3, a4, a5, a6, a7⟩ := t_letLn (d := d) hW h hf h0 hq hS (wr.2 (by omega)) h5 h01
        refine ⟨w1, a2, a3, a4, a5, a6, a7, fun w2 e => ?_⟩
        rw [eX8_readLines_28, if_pos hc, if_pos k4, t_goesOn h hf]
        simp only [bI, ite10]
        rw [if_pos ⟨trivial, kz⟩, if_pos k4, w9, if_pos (by omega), if_neg c1, if_pos k4, if_pos (by omega), if_neg c2, if_pos k4, if_pos (by omega), if_pos c3, if_pos k8, a1]
        simp only [bN]
        rw [if_pos a2.1.1.1, e]
        simp only []
        rw [w32_eq (by omega) (by omega), w32_eq (by omega) (by omega)]
      · rw [if_neg c3, if_neg c3]
        obtain ⟨w1, a1, a2, a3, a4⟩ := t_fail (d := d + 3) h hf 1
        refine ⟨w1, a2, a3, hW.mf34 a4, hS.mf a4 (fun r j r0 r1 => by omega), a4.mono (fun r j z => by omega), by rw [a4.gvE (by omega)]; exact h5, fun w2 e => ?_⟩
        rw [eX8_readLines_28, if_pos hc, if_pos k4, t_goesOn h hf]
        simp only [bI, ite10]
        rw [if_pos ⟨trivial, kz⟩, if_pos k4, w9, if_pos (by omega), if_neg c1, if_pos k4, if_pos (by omega), if_neg c2, if_pos k4, if_pos (by omega), if_neg c3, if_pos k4, a1]
        simp only [bN]
        rw [if_pos a2.1.1.1, e]
        simp only []
        rw [w32_eq (by omega) (by omega), w32_eq (by omega) (by omega)]
/-- after a fault nothing more is read -/
theorem l_linesF {q many c fa pl : Int} (h : RdI w t n most p) (hf : FlI w fa pl) (z : fa ≠ 0) : Rn (Ex pro (d + 4)) mX8_readLines (28, [some (rV q), some (rV 34), some (iV many), some (iV c)], [], w) (some (iV many), w) := by
  refine Rn.ret ?_
  rw [eX8_readLines_28]
  by_cases y : c < 940
  · rw [if_pos y, if_pos h.1.1.1, t_goesOn h hf]
    simp only [bI, ite10]
    rw [if_neg (fun u => z u.1)]
  · rw [if_neg y]
theorem l_lines {q : Int} (hq : q = 36 ∨ q = 53) : ∀ (f : Nat) (c p many told : Int) (w : sW) (A : Rm), c + f = 940 → 0 ≤ many ∧ many ≤ c → 0 ≤ p → RdI w t n most p → FlI w 0 0 → WordI w → StI w q A → (many = 0 → A.1 = 0) → gv w q 5 = told → (told = 0 ∨ told = 1) → ∃ w', Rn (Ex pro (d + 4)) mX8_readLines (28, [some (rV q), some (rV 34), some (iV many), some (iV c)], [], w) (some (iV (rmF t n most f p many told A).2.2.1), w') ∧ (∃ p', RdI w' t n most p') ∧ FlI w' (rmF t n most f p many told A).1 (rmF t n most f p many told A).2.1 ∧ WordI w' ∧ StI w' q (rmF t n most f p many told A).2.2.2 ∧ Mf w w' (rmP q)
  | 0, c, p, many, told, w, A, hc, hm, h0, h, hf, hW, hS, hA, h5, h01 => by
    refine ⟨w, Rn.ret ?_, ⟨p, h⟩, hf, hW, hS, Mf.refl _ _⟩
    rw [eX8_readLines_28, if_neg (by omega)]
    rfl
  | f + 1, c, p, many, told, w, A, hc, hm, h0, h, hf, hW, hS, hA, h5, h01 => by
    unfold rmF
    by_cases kz : tkK t n most p = 0
    · rw [if_pos kz]
      refine ⟨w, Rn.ret ?_, ⟨p, h⟩, hf, hW, hS, Mf.refl _ _⟩
      rw [eX8_readLines_28, if_pos (by omega), if_pos h.1.1.1, t_goesOn h hf]
      simp only [bI, ite10]
      rw [if_neg (fun u => u.2 kz)]
    · rw [if_neg kz]
      have lz := lnF_z t n most many told A p
      obtain ⟨w1, a2, a3, a4, a5, a6, a7, a8⟩ := t_line (d := d) (c := c) hW h hf h0 hq hS hA h5 h01 hm (by omega) kz
      by_cases e0 : (lnF t n most many told A p).1 = 0
      · rw [if_pos e0]
        have a3' : FlI w1 0 0 := ⟨a3.1.trans e0, a3.2.trans (lz.2 e0)⟩
        by_cases y : atS t n most (lnF t n most many told A p).2.2.1 59
        · rw [if_pos y]
          obtain ⟨w2, b1, b2, b3, b4, b5⟩ := t_signY (d := d + 1) a4 a2 a3' (by omega) y
          have t2 := tk_in (t := t) (n := n) (most := most) (p := (lnF t n most many told A p).2.2.1) (by omega)
          obtain ⟨w', g1, g2, g3, g4, g5, g6⟩ := l_lines hq f (c + 1) _ (many + 1) (toldF t n most p told) w2 _ (by omega) (by omega) (by omega) b2 b3 b4 (a5.mf b5 (fun r j r0 r1 => by omega)) (fun z => by omega) (by rw [b5.gvE (by omega)]; exact a7) (by unfold toldF; split <;> omega)
          exact ⟨w', Rn.cut (a8 w2 b1) g1, g2, g3, g4, g5, (a6.trans b5).tr (g6.mono (fun r j z => Or.inl z)) |>.mono (fun r j z => by omega)⟩
        · rw [if_neg y]
          obtain ⟨w2, b1, b2, b3, b4, b5⟩ := t_signN (d := d + 1) a4 a2 a3' y
          exact ⟨w2, Rn.cut (a8 w2 b1) (l_linesF b2 b3 (by omega)), ⟨_, b2⟩, b3, b4, a5.mf b5 (fun r j r0 r1 => by omega), (a6.trans b5).mono (fun r j z => by omega)⟩
      · rw [if_neg e0]
        exact ⟨w1, Rn.cut (a8 w1 (t_signF (d := d + 1) a2 a3 e0 59)) (l_linesF a2 a3 e0), ⟨_, a2⟩, a3, a4, a5, a6⟩
end RR2
