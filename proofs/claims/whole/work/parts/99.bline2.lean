/-! ===== the lines of a book kept: the class ===== -/
abbrev Ln := Int × Int × Int × Int
/-- the class's book holds c lines L -/
def BoI (w : sW) (c : Int) (L : Int → Ln) : Prop := (kd w 80 = 1 ∧ gv w 80 0 = 81 ∧ gv w 80 1 = 82 ∧ gv w 80 2 = 83 ∧ gv w 80 3 = 84) ∧ (kd w 81 = 27 ∧ ln w 81 = 40) ∧ (kd w 82 = 20 ∧ ln w 82 = 40) ∧ (kd w 83 = 20 ∧ ln w 83 = 40) ∧ (kd w 84 = 20 ∧ ln w 84 = 40) ∧ gv w 80 4 = c ∧ (0 ≤ c ∧ c ≤ 40) ∧ ∀ i, 0 ≤ i → i < c → gv w 81 i = (L i).1 ∧ gv w 82 i = (L i).2.1 ∧ gv w 83 i = (L i).2.2.1 ∧ gv w 84 i = (L i).2.2.2
theorem BoI.mf {w w' : sW} {c : Int} {L : Int → Ln} {P : Int → Int → Prop} (h : BoI w c L) (g : Mf w w' P) (h0 : ∀ j, 0 ≤ j → j ≤ 4 → ¬ P 80 j) (h1 : ∀ r j, 81 ≤ r → r ≤ 84 → j < c → ¬ P r j) : BoI w' c L := by
  obtain ⟨a1, a2, a3, a4, a5, a6, a7, a8⟩ := h
  unfold BoI
  simp only [g.kdE, g.lnE]
  rw [g.gvE (h0 0 (by omega) (by omega)), g.gvE (h0 1 (by omega) (by omega)), g.gvE (h0 2 (by omega) (by omega)), g.gvE (h0 3 (by omega) (by omega)), g.gvE (h0 4 (by omega) (by omega))]
  refine ⟨a1, a2, a3, a4, a5, a6, a7, fun i i0 i1 => ?_⟩
  rw [g.gvE (h1 81 i (by omega) (by omega) i1), g.gvE (h1 82 i (by omega) (by omega) i1), g.gvE (h1 83 i (by omega) (by omega) i1), g.gvE (h1 84 i (by omega) (by omega) i1)]
  exact a8 i i0 i1
def addL (L : Int → Ln) (c : Int) (x : Ln) : Int → Ln := fun i => if i = c then x else L i
abbrev bkP (r j : Int) : Prop := rdC' r j ∨ (81 ≤ r ∧ r ≤ 84)
section BL2
variable {d : Nat} {w : sW} {t : Int → Int} {n most : Int}
theorem t_bline {q k p c : Int} {A : Rm} {L : Int → Ln} (h : RS w t n most (0, 0, p)) (hS : StI w q A) (hq : q = 36 ∨ q = 53) (hk : tkW t n most p = k) (h0 : k ≠ 0) (hB : BoI w c L) (hc : c < 40) : ∃ w', Ex pro (d + 5) 2 w [rV 80, rV 34, rV q] = some (none, w') ∧ RS w' t n most (bkL t n most A (0, 0, tkT t n most p) k).1 ∧ BoI w' c L ∧ (gv w' 81 c = k ∧ gv w' 82 c = (bkL t n most A (0, 0, tkT t n most p) k).2.1 ∧ gv w' 83 c = (bkL t n most A (0, 0, tkT t n most p) k).2.2.1 ∧ gv w' 84 c = (bkL t n most A (0, 0, tkT t n most p) k).2.2.2) ∧ Mf w w' bkP := by
  have wr := tkW_rg t n most p
  obtain ⟨w1, a1, a2, a3⟩ := l_bline (d := d) h hS hq hk h0
  have B1 := hB.mf a2 (fun j j0 j1 => by omega) (fun r j r0 r1 r2 => by omega)
  obtain ⟨⟨b1, b2, b3, b4, b5⟩, b6, b7, b8, b9, b10, b11, b12⟩ := B1
  have kw : kd w1 k = 30 := by
    have := (a1.2.2.1.2 (k - 1) (by omega) (by omega)).2.1
    rw [show k - 1 + 1 = k by omega] at this
    exact this
  revert a3
  generalize bkL t n most A (0, 0, tkT t n most p) k = Z at a1 ⊢
  intro a3
  have m1 := Mf.svI w1 81 c k
  have m2 := Mf.svI (sv w1 81 c k) 82 c Z.2.1
  have m3 := Mf.svI (sv (sv w1 81 c k) 82 c Z.2.1) 83 c Z.2.2.1
  have m4 := Mf.svI (sv (sv (sv w1 81 c k) 82 c Z.2.1) 83 c Z.2.2.1) 84 c Z.2.2.2
  have mm : Mf w1 (sv (sv (sv (sv w1 81 c k) 82 c Z.2.1) 83 c Z.2.2.1) 84 c Z.2.2.2) (fun r j => 81 ≤ r ∧ r ≤ 84 ∧ j = c) := (m1.trans (m2.trans (m3.trans m4))).mono (fun r j z => by omega)
  refine ⟨_, xX0_readLine (a3 _ (Rn.ret ?_)), a1.mf mm (fun j => by omega) (fun j => by omega) (fun r j r0 r1 => by omega), BoI.mf ⟨⟨b1, b2, b3, b4, b5⟩, b6, b7, b8, b9, b10, b11, b12⟩ mm (fun j j0 j1 => by omega) (fun r j r0 r1 r2 => by omega), ⟨by rw [m4.gvE (by omega), m3.gvE (by omega), m2.gvE (by omega), gvSS], by rw [m4.gvE (by omega), m3.gvE (by omega), gvSS], by rw [m4.gvE (by omega), gvSS], gvSS _ _ _ _⟩, (a2.trans mm).mono (fun r j z => by omega)⟩
  have y1 : gv (sv w1 81 c k) 80 1 = 82 := by rw [m1.gvE (by omega)]; exact b3
  have y14 : gv (sv w1 81 c k) 80 4 = c := by rw [m1.gvE (by omega)]; exact b10
  have y2 : gv (sv (sv w1 81 c k) 82 c Z.2.1) 80 2 = 83 := by rw [m2.gvE (by omega), m1.gvE (by omega)]; exact b4
  have y24 : gv (sv (sv w1 81 c k) 82 c Z.2.1) 80 4 = c := by rw [m2.gvE (by omega), m1.gvE (by omega)]; exact b10
  have y3 : gv (sv (sv (sv w1 81 c k) 82 c Z.2.1) 83 c Z.2.2.1) 80 3 = 84 := by rw [m3.gvE (by omega), m2.gvE (by omega), m1.gvE (by omega)]; exact b5
  have y34 : gv (sv (sv (sv w1 81 c k) 82 c Z.2.1) 83 c Z.2.2.1) 80 4 = c := by rw [m3.gvE (by omega), m2.gvE (by omega), m1.gvE (by omega)]; exact b10
  have k1 : kd (sv w1 81 c k) 80 = 1 := b1
  have k2 : kd (sv (sv w1 81 c k) 82 c Z.2.1) 80 = 1 := b1
  have k3 : kd (sv (sv (sv w1 81 c k) 82 c Z.2.1) 83 c Z.2.2.1) 80 = 1 := b1
  rw [eX0_readLine_127, if_pos b1, if_pos b1, b2, b10, if_pos ⟨Or.inr (Or.inr (Or.inr ⟨b6.1, kw, by omega⟩)), b11.1, by rw [b6.2]; omega⟩, wl_eq, if_pos k1, if_pos k1, y1, y14, if_pos ⟨⟨b7.1, by omega⟩, b11.1, by rw [show ln (sv w1 81 c k) 82 = 40 from b7.2]; omega⟩, wl_eq, if_pos k2, if_pos k2, y2, y24, if_pos ⟨⟨b8.1, by omega⟩, b11.1, by rw [show ln (sv (sv w1 81 c k) 82 c Z.2.1) 83 = 40 from b8.2]; omega⟩, wl_eq, if_pos k3, if_pos k3, y3, y34, if_pos ⟨⟨b9.1, by omega⟩, b11.1, by rw [show ln (sv (sv (sv w1 81 c k) 82 c Z.2.1) 83 c Z.2.2.1) 84 = 40 from b9.2]; omega⟩, wl_eq]
end BL2
