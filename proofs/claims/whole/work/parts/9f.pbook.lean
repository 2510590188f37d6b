/-! ===== the class's book ===== -/
abbrev bkFa (t : Int → Int) (n : Int) (A : Rm) : Int × Int × Int × (Int → Ln) := bkF t n 400 A 41 0 0 bL0
def bkDa (t : Int → Int) (n : Int) (A : Rm) : Int × Int × Rm := bkD (bkFa t n A).2.2.2 (bkFa t n A).2.2.1 41 0 A
/-- the four numbers told of a book -/
def bkT (t : Int → Int) (n : Int) (A : Rm) (i : Int) : Int := if i = 0 then (bkDa t n A).2.1 else if i = 1 then (bkDa t n A).1 else if i = 2 then abt (bkDa t n A).2.2.2.2.2.1 0 (bkDa t n A).2.2.1.toNat else (bkDa t n A).2.2.2.2.2.2.1
abbrev bkX (r j : Int) : Prop := (r = 32 ∧ (j = 1 ∨ j = 13)) ∨ (r = 34 ∧ j ≤ 11) ∨ (36 ≤ r ∧ r ≤ 69) ∨ (80 ≤ r ∧ r ≤ 84 ∧ (r = 80 → j = 4 ∨ j = 5)) ∨ r = 90
/-- what the class keeps of a book -/
def BkI (w : sW) (T : Int → Int) : Prop := (gv w 32 7 = 80 ∧ ∃ c L, BoI w c L) ∧ (gv w 32 14 = 90 ∧ kd w 90 = 20 ∧ ln w 90 = 4) ∧ ∀ i, 0 ≤ i → i < 4 → gv w 90 i = T i
section PBk
variable {d : Nat} {w : sW} {t : Int → Int} {n q q' hk : Int} {A : Rm} {H : Int → Rm} {T : Int → Int}
theorem p_bookX {a1 : Int} (h : ¬ (a1 = 0 ∨ a1 = 1)) : Ex pro (d + 1) 142 w [rV 32, iV a1] = some (some (iV (-1000)), w) := by
  refine xX11_book (Rn.ret ?_)
  rw [eX11_book_0, if_neg (by omega), if_neg (by omega)]
theorem p_book0 {a1 : Int} (h : a1 = 0 ∨ a1 = 1) {r : Option sV × sW} (g : Rn (Ex pro d) mX11_book (13, [some (rV 32), some (iV a1), none], [], w) r) : Ex pro (d + 1) 142 w [rV 32, iV a1] = some r := by
  refine xX11_book (Rn.cut ?_ g)
  rw [eX11_book_0]
  by_cases c : a1 = 0
  · rw [if_pos c]
  · rw [if_neg c, if_pos (by omega)]
theorem p_bookN (h : CD w q A hk H) (hs : SpI w q q') (hT : TpI w 32 0 1 33 t n) (h2 : gv w 32 2 = 34 ∧ kd w 34 = 4) (hW : WordI w) (hB : BkI w T) (e : (bkFa t n A).1 ≠ 0) {a1 : Int} (ha : a1 = 0 ∨ a1 = 1) : ∃ w', Ex pro (d + 7) 142 w [rV 32, iV a1] = some (some (iV (w32 (-2 - (bkFa t n A).2.1))), w') ∧ CD w' q A hk H ∧ SpI w' q q' ∧ TpI w' 32 0 1 33 t 0 ∧ gv w' 32 13 = (bkFa t n A).1 ∧ WordI w' ∧ BkI w' T ∧ Mf w w' bkX := by
  obtain ⟨h1, hq, h8, hH, hO, hS, hn⟩ := h
  obtain ⟨s1, s2, s3⟩ := hs
  obtain ⟨⟨f7, c, L, hBo⟩, f14, fT⟩ := hB
  obtain ⟨w1, a1', a2, a3, a4, a5⟩ := t_open (d := d + 3) (most := 400) hW h2.2 hT (by omega)
  obtain ⟨w2, b1, ⟨p', b2⟩, b3, b4, b5⟩ := t_bookLines (d := d) (most := 400) (w := w1) hq ⟨a2, a3, a4, Int.le_refl _⟩ (h1.2.2.mf a5 (fun r j r0 r1 => by omega)) (hBo.mf a5 (fun j j0 j1 => by omega) (fun r j r0 r1 r2 => by omega))
  have m12 : Mf w w2 (fun r j => (r = 34 ∧ j ≤ 11) ∨ (80 ≤ r ∧ r ≤ 84 ∧ (r = 80 → j = 4))) := (a5.trans b5).mono (fun r j z => by omega)
  have c1 := p_closes (d := d + 5) (w := w2) (by rw [m12.kdE]; exact h1.1) (by rw [m12.gvE (by omega)]; exact h2.1) b2.1.1.1.1 b2.2.1
  have e' : (bkF t n 400 A 41 0 0 bL0).1 ≠ 0 := e
  have m3 := Mf.svI w2 32 1 0
  have m4 := Mf.svI (sv w2 32 1 0) 32 13 (bkF t n 400 A 41 0 0 bL0).1
  have m34 : Mf w2 (sv (sv w2 32 1 0) 32 13 (bkF t n 400 A 41 0 0 bL0).1) (fun r j => r = 32 ∧ (j = 1 ∨ j = 13)) := (m3.trans m4).mono (fun r j z => by omega)
  have mm : Mf w (sv (sv w2 32 1 0) 32 13 (bkF t n 400 A 41 0 0 bL0).1) (fun r j => (r = 32 ∧ (j = 1 ∨ j = 13)) ∨ (r = 34 ∧ j ≤ 11) ∨ (80 ≤ r ∧ r ≤ 84 ∧ (r = 80 → j = 4))) := (m12.trans m34).mono (fun r j z => by omega)
  refine ⟨_, p_book0 ha (Rn.ret ?_), ⟨h1.ag mm.ag hn hq (by omega) (fun r j r0 r1 => by omega), hq, by rw [mm.gvE (by omega)]; exact h8, hH.ag hO mm.ag hn (fun r j z => by omega), hO.ag mm.ag hn (fun r j z => by omega), hS.ag hO mm.ag hn (fun r j z => by omega), by rw [mm.nxE]; exact hn⟩, ⟨by rw [mm.gvE (by omega)]; exact s1, s2.eq (mm.eqO (fun r j r0 r1 => by omega)), s3⟩, ?_, gvSS _ _ _ _, b2.2.2.1.eq (m34.eqO (fun r j r0 r1 => by omega)), ⟨⟨by rw [mm.gvE (by omega)]; exact f7, _, _, b4.mf m34 (fun j j0 j1 => by omega) (fun r j r0 r1 r2 => by omega)⟩, ⟨by rw [mm.gvE (by omega)]; exact f14.1, by rw [mm.kdE]; exact f14.2.1, by rw [mm.lnE]; exact f14.2.2⟩, fun i i0 i1 => by rw [mm.gvE (by omega)]; exact fT i i0 i1⟩, mm.mono (fun r j z => by omega)⟩
  · have k9 := h1.1
    have k91 : kd w1 32 = 9 := by rw [a5.kdE]; exact k9
    have k92 : kd w2 32 = 9 := by rw [m12.kdE]; exact k9
    have g2 : gv w1 32 2 = 34 := by rw [a5.gvE (by omega)]; exact h2.1
    have g3 : gv w1 32 3 = q := by rw [a5.gvE (by omega)]; exact h1.2.1
    have g7 : gv w1 32 7 = 80 := by rw [a5.gvE (by omega)]; exact f7
    have k80 : kd w1 80 = 1 := by rw [a5.kdE]; exact hBo.1.1
    have k94 : kd (sv (sv w2 32 1 0) 32 13 (bkF t n 400 A 41 0 0 bL0).1) 32 = 9 := k92
    have g24 : gv (sv (sv w2 32 1 0) 32 13 (bkF t n 400 A 41 0 0 bL0).1) 32 2 = 34 := by rw [mm.gvE (by omega)]; exact h2.1
    have g11 : gv (sv (sv w2 32 1 0) 32 13 (bkF t n 400 A 41 0 0 bL0).1) 34 11 = (bkF t n 400 A 41 0 0 bL0).2.1 := by rw [m34.gvE (by omega)]; exact b2.2.1.2
    rw [eX11_book_13, if_pos k9, if_pos k9, if_pos k9, h2.1, if_pos h2.2, hT.1.1, hT.2.1, a1']
    simp only [bN]
    rw [if_pos k91, if_pos k91, if_pos k91, g7, if_pos k80, g2, g3, b1]
    simp only []
    rw [if_pos k92, c1]
    simp only [bI]
    rw [if_neg e', if_neg (by decide), if_pos k94, g24, if_pos (show kd (sv (sv w2 32 1 0) 32 13 (bkF t n 400 A 41 0 0 bL0).1) 34 = 4 from b2.1.1.1.1), g11]
  · have T2 : TpI w2 32 0 1 33 t n := hT.mf m12 (by omega) (by omega) (fun j => by omega)
    exact T2.zero.mf m4 (by omega) (by omega) (fun j => by omega)
end PBk
