/-! ===== Book.readLines whole ===== -/
def bL0 : Int → Ln := fun _ => (0, 0, 0, 0)
section BL4
variable {d : Nat} {w : sW} {t : Int → Int} {n most : Int}
theorem t_bookLines {q c : Int} {A : Rm} {L : Int → Ln} (hq : q = 36 ∨ q = 53) (h : RS w t n most (0, 0, 0)) (hS : StI w q A) (hB : BoI w c L) : ∃ w', Ex pro (d + 6) 1 w [rV 80, rV 34, rV q] = some (none, w') ∧ (∃ p', RS w' t n most ((bkF t n most A 41 0 0 bL0).1, (bkF t n most A 41 0 0 bL0).2.1, p')) ∧ StI w' q A ∧ BoI w' (bkF t n most A 41 0 0 bL0).2.2.1 (bkF t n most A 41 0 0 bL0).2.2.2 ∧ Mf w w' bkQ := by
  have m1 := Mf.svI w 80 4 0
  obtain ⟨b1, b2, b3, b4, b5, b6, b7, b8⟩ := hB
  have B1 : BoI (sv w 80 4 0) 0 bL0 := ⟨⟨b1.1, by rw [m1.gvE (by omega)]; exact b1.2.1, by rw [m1.gvE (by omega)]; exact b1.2.2.1, by rw [m1.gvE (by omega)]; exact b1.2.2.2.1, by rw [m1.gvE (by omega)]; exact b1.2.2.2.2⟩, b2, b3, b4, b5, gvSS _ _ _ _, by omega, fun i i0 i1 => by omega⟩
  obtain ⟨w', g1, g2, g3, g4, g5⟩ := l_blines (d := d) hq 41 0 0 0 _ bL0 (by omega) (by omega) (h.mf m1 (fun j => by omega) (fun j => by omega) (fun r j r0 r1 => by omega)) (hS.mf m1 (fun r j r0 r1 => by omega)) B1
  refine ⟨w', xX0_readLines (Rn.cut ?_ g1), g2, g3, g4, (m1.mono (Q := bkQ) (fun r j z => by omega)).tr g5⟩
  rw [eX0_readLines_0, if_pos b1.1, wl_eq]
end BL4
