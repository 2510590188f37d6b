/-! ===== the deeds of a book: the class ===== -/
abbrev lnR (l : Ln) : Int := if 10 ≤ l.1 then 0 else l.2.1
abbrev lnI (l : Ln) : Int := if 10 ≤ l.1 then l.2.1 else if l.1 = 8 then 0 else l.2.2.1
abbrev lnN (l : Ln) : Int := if l.1 = 8 ∨ 10 ≤ l.1 then l.2.2.1 else l.2.2.2
/-- a line that was read without a fault -/
def LnG (A : Rm) (l : Ln) : Prop := dOk A (l.1 - 4) (lnR l) (lnI l) (lnN l) ∧ (l.1 = 8 ∨ 10 ≤ l.1 → l.2.2.2 = 0)
theorem LnG.cg {A B : Rm} {l : Ln} (h : LnG A l) (e : B.1 = A.1) : LnG B l := by
  unfold LnG dOk isR at *
  rw [e]
  exact h
abbrev whyL (A : Rm) (l : Ln) : Int := whyN A l.1 l.2.1 l.2.2.1 l.2.2.2
abbrev actL (A : Rm) (l : Ln) : Rm := actF A l.1 l.2.1 l.2.2.1 l.2.2.2
/-- how many lines were lived, what is wrong, the room -/
def bkD (L : Int → Ln) (c : Int) : Nat → Int → Rm → Int × Int × Rm
  | 0, i, A => (i, 0, A)
  | f + 1, i, A => if i < c then (if whyL A (L i) = 0 then bkD L c f (i + 1) (actL A (L i)) else (i, 10 * ((L i).1 - 4) + whyL A (L i), A)) else (i, 0, A)
theorem LnG.eqs {A : Rm} {l : Ln} (h : LnG A l) : (4 ≤ l.1 ∧ l.1 ≤ 11) ∧ l.2.1 = cA (l.1 - 4) (lnR l) (lnI l) ∧ l.2.2.1 = cB (l.1 - 4) (lnI l) (lnN l) ∧ l.2.2.2 = cC (l.1 - 4) (lnN l) := by
  obtain ⟨k, a, b, c⟩ := l
  obtain ⟨⟨h1, h2⟩, h3⟩ := h
  clear h2
  simp only [lnR, lnI, lnN, cA, cB, cC] at h1 h3 ⊢
  have hk : k = 4 ∨ k = 5 ∨ k = 6 ∨ k = 7 ∨ k = 8 ∨ k = 9 ∨ k = 10 ∨ k = 11 := by omega
  rcases hk with z | z | z | z | z | z | z | z <;> subst z <;> simp at h3 ⊢ <;> omega
theorem LnG.why {A : Rm} {l : Ln} (h : LnG A l) : whyL A l = whyM A (l.1 - 4) (lnR l) (lnI l) (lnN l) := by
  have e := h.eqs
  unfold whyL whyM
  rw [← e.2.1, ← e.2.2.1, ← e.2.2.2, show l.1 - 4 + 4 = l.1 by omega]
theorem LnG.act {A : Rm} {l : Ln} (h : LnG A l) : actL A l = actM A (l.1 - 4) (lnR l) (lnI l) (lnN l) := by
  have e := h.eqs
  unfold actL actM
  rw [← e.2.1, ← e.2.2.1, ← e.2.2.2, show l.1 - 4 + 4 = l.1 by omega]
theorem whyN_rg (A : Rm) (e a b c : Int) : 0 ≤ whyN A e a b c ∧ whyN A e a b c ≤ 2 := by
  unfold whyN whyMv
  repeat' split
  all_goals omega
theorem LnG.args {A : Rm} {l : Ln} (h : LnG A l) (hA : A.1 ≤ 4) : (in32 l.2.2.1 ∧ in32 l.2.2.2) ∧ (l.1 = 4 → l.2.2.2 = 0 ∨ l.2.2.2 = 1) ∧ (l.1 = 10 → 0 ≤ l.2.2.1 ∧ l.2.2.1 < 8) ∧ (l.1 = 8 → l.2.1 ≠ l.2.2.1) ∧ (l.1 = 9 → l.2.1 ≠ l.2.2.2) := by
  obtain ⟨k, a, b, c⟩ := l
  obtain ⟨⟨h1, h2, h4, h5, h6, h7, h8⟩, h3⟩ := h
  simp only [lnR, lnI, lnN] at h1 h2 h3 h4 h5 h6 h7 h8 ⊢
  unfold isR in32 at *
  have hk : k = 4 ∨ k = 5 ∨ k = 6 ∨ k = 7 ∨ k = 8 ∨ k = 9 ∨ k = 10 ∨ k = 11 := by omega
  rcases hk with z | z | z | z | z | z | z | z <;> subst z <;> simp at h2 h3 h4 h5 h6 h7 h8 ⊢ <;> omega
section LV
variable {d : Nat} {w : sW} {c : Int} {L : Int → Ln} {A : Rm} {q : Int}
abbrev lvP (q r j : Int) : Prop := (q ≤ r ∧ r ≤ q + 16) ∨ (r = 80 ∧ j = 5)
theorem l_live (hq : q = 36 ∨ q = 53) : ∀ (f : Nat) (i : Int) (w : sW) (A : Rm), i + f = 41 → 0 ≤ i → WordI w → StI w q A → BoI w c L → (∀ i, 0 ≤ i → i < c → LnG A (L i)) → i ≤ c → gv w 80 5 = 0 → ∃ w', Rn (Ex pro (d + 4)) mX0_liveOn (7, [some (rV 80), some (rV q), some (iV i), none, none], [], w) (some (iV (bkD L c f i A).1), w') ∧ StI w' q (bkD L c f i A).2.2 ∧ BoI w' c L ∧ gv w' 80 5 = (bkD L c f i A).2.1 ∧ Mf w w' (lvP q)
  | 0, i, w, A, hf, h0, hW, hS, hB, hL, hi, h5 => by
    have := hB.2.2.2.2.2.2.1
    omega
  | f + 1, i, w, A, hf, h0, hW, hS, hB, hL, hi, h5 => by
    obtain ⟨⟨b1, b2, b3, b4, b5⟩, b6, b7, b8, b9, b10, b11, b12⟩ := hB
    have B : BoI w c L := ⟨⟨b1, b2, b3, b4, b5⟩, b6, b7, b8, b9, b10, b11, b12⟩
    unfold bkD
    by_cases z : i < c
    · rw [if_pos z]
      obtain ⟨e1, e2, e3, e4⟩ := b12 i h0 z
      have g := hL i h0 z
      have kr := g.eqs.1
      have wd := (hW.2 ((L i).1 - 1) (by omega) (by omega)).2
      rw [show (L i).1 - 1 + 1 = (L i).1 by omega] at wd
      have rg := whyN_rg A (L i).1 (L i).2.1 (L i).2.2.1 (L i).2.2.2
      have why := m_whyNot (d := d + 1) hS (e := (L i).1) (a := (L i).2.1) kr (g.args hS.2.2.1.2).1.1 (g.args hS.2.2.1.2).1.2
      by_cases y : whyL A (L i) = 0
      · rw [if_pos y]
        obtain ⟨w1, a1, a2, a3⟩ := m_act (d := d) hS (e := (L i).1) (a := (L i).2.1) (b := (L i).2.2.1) (c := (L i).2.2.2) kr y (g.args hS.2.2.1.2).2.1 (g.args hS.2.2.1.2).2.2.1 (g.args hS.2.2.1.2).2.2.2.1 (g.args hS.2.2.1.2).2.2.2.2
        have W1 : WordI w1 := hW.eq (a2.eqO (by omega))
        obtain ⟨w', c1, c2, c3, c4, c5⟩ := l_live hq f (i + 1) w1 (actL A (L i)) (by omega) (by omega) W1 a3 (B.mf a2.mf (fun j j0 j1 => by omega) (fun r j r0 r1 r2 => by omega)) (fun x x0 x1 => (hL x x0 x1).cg (actF_keep _ _ _ _ _).1) (by omega) (by rw [a2.mf.gvE (by omega)]; exact h5)
        refine ⟨w', Rn.cut ?_ c1, c2, c3, c4, (a2.mf.mono (Q := lvP q) (fun r j z => by have z' : q ≤ r ∧ r ≤ q + 16 := z; omega)).tr c5⟩
        rw [eX0_liveOn_7, if_pos b1, b10, if_pos z, if_pos (by omega), if_pos b1, b2, if_pos ⟨by omega, by omega, by omega⟩, e1, if_neg (by omega), if_pos b1, b3, if_pos ⟨b7.1, by omega, by omega⟩, if_pos b1, b4, if_pos ⟨b8.1, by omega, by omega⟩, if_pos b1, b5, if_pos ⟨b9.1, by omega, by omega⟩, if_pos hS.1.1.1, e2, e3, e4, why]
        simp only [bI]
        rw [if_pos y, if_pos b1, b3, if_pos ⟨b7.1, by omega, by omega⟩, if_pos b1, b4, if_pos ⟨b8.1, by omega, by omega⟩, if_pos b1, b5, if_pos ⟨b9.1, by omega, by omega⟩, if_pos hS.1.1.1, e2, e3, e4, a1]
        simp only [bN]
        rw [w32_eq (by omega) (by omega)]
      · rw [if_neg y]
        have m1 := Mf.svI w 80 5 (10 * ((L i).1 - 4) + whyL A (L i))
        refine ⟨_, Rn.ret ?_, hS.mf m1 (fun r j r0 r1 => by omega), B.mf m1 (fun j j0 j1 => by omega) (fun r j r0 r1 r2 => by omega), gvSS _ _ _ _, m1.mono (fun r j z => by omega)⟩
        have bs : bas ((L i).1 - 1) = 10 * ((L i).1 - 4) := by
          show (if 3 ≤ (L i).1 - 1 ∧ (L i).1 - 1 ≤ 10 then 10 * ((L i).1 - 1 - 3) else 0) = _
          rw [if_pos (by omega)]
          omega
        rw [eX0_liveOn_7, if_pos b1, b10, if_pos z, if_pos (by omega), if_pos b1, b2, if_pos ⟨by omega, by omega, by omega⟩, e1, if_neg (by omega), if_pos b1, b3, if_pos ⟨b7.1, by omega, by omega⟩, if_pos b1, b4, if_pos ⟨b8.1, by omega, by omega⟩, if_pos b1, b5, if_pos ⟨b9.1, by omega, by omega⟩, if_pos hS.1.1.1, e2, e3, e4, why]
        simp only [bI]
        rw [if_neg y, if_pos wd.1, if_pos b1, wd.2.2.2, bs, w32_eq (by omega) (by omega), wl_eq]
    · rw [if_neg z]
      refine ⟨w, Rn.ret ?_, hS, B, h5, Mf.refl _ _⟩
      rw [eX0_liveOn_7, if_pos b1, b10, if_neg z, if_pos b1, show c = i by omega]
theorem t_liveOn (hq : q = 36 ∨ q = 53) (hW : WordI w) (hS : StI w q A) (hB : BoI w c L) (hL : ∀ i, 0 ≤ i → i < c → LnG A (L i)) : ∃ w', Ex pro (d + 5) 4 w [rV 80, rV q] = some (some (iV (bkD L c 41 0 A).1), w') ∧ StI w' q (bkD L c 41 0 A).2.2 ∧ BoI w' c L ∧ gv w' 80 5 = (bkD L c 41 0 A).2.1 ∧ Mf w w' (lvP q) := by
  have m1 := Mf.svI w 80 5 0
  obtain ⟨w', a1, a2, a3, a4, a5⟩ := l_live (d := d) hq 41 0 (sv w 80 5 0) A (by omega) (by omega) (hW.eq (m1.eqO (fun r j r0 r1 => by omega))) (hS.mf m1 (fun r j r0 r1 => by omega)) (hB.mf m1 (fun j j0 j1 => by omega) (fun r j r0 r1 r2 => by omega)) hL hB.2.2.2.2.2.2.1.1 (gvSS _ _ _ _)
  refine ⟨w', xX0_liveOn (Rn.cut ?_ a1), a2, a3, a4, (m1.mono (Q := lvP q) (fun r j z => by omega)).tr a5⟩
  rw [eX0_liveOn_0, if_pos hB.1.1, wl_eq]
theorem bkD_keep : ∀ (f : Nat) (i : Int) (A : Rm), (bkD L c f i A).2.2.1 = A.1 ∧ (bkD L c f i A).2.2.2.1 = A.2.1 ∧ (bkD L c f i A).2.2.2.2.1 = A.2.2.1 ∧ i ≤ (bkD L c f i A).1 ∧ ((bkD L c f i A).1 = i → (bkD L c f i A).2.2 = A)
  | 0, i, A => ⟨rfl, rfl, rfl, Int.le_refl _, fun _ => rfl⟩
  | f + 1, i, A => by
    unfold bkD
    split
    · split
      · have := bkD_keep f (i + 1) (actL A (L i))
        have k := actF_keep A (L i).1 (L i).2.1 (L i).2.2.1 (L i).2.2.2
        refine ⟨this.1.trans k.1, this.2.1.trans k.2.1, this.2.2.1.trans k.2.2, by omega, fun z => by omega⟩
      · exact ⟨rfl, rfl, rfl, Int.le_refl _, fun _ => rfl⟩
    · exact ⟨rfl, rfl, rfl, Int.le_refl _, fun _ => rfl⟩
end LV
