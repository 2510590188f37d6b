def merL (l : Int → Int) (j : Int) : Int → Int := fun x => if x < j then l x else if x = j then l j + l (j + 1) else l (x + 1)
section RC2
variable {d : Nat} {w : sW} {a n k : Int} {b l : Int → Int}
theorem s_merge (h : RowA w a n b k l) (hk : 2 ≤ k ∧ k ≤ 151) {j low : Int} (hj : 0 ≤ j ∧ j + 1 < k) (hl : 0 ≤ l j ∧ l j ≤ 1000) (hl' : 0 ≤ l (j + 1) ∧ l (j + 1) ≤ 1000) (hlow : 0 ≤ low ∧ low ≤ 1000) : ∃ w', Ex pro (d + 2) 51 w [rV a, iV j, iV low] = some (none, w') ∧ Fr w w' a (a + 2) ∧ RowA w' a n b (halK (merL l j) (k - 1) j low) (halL (merL l j) (k - 1) j low) := by
  obtain ⟨⟨s1, s2, s3, s4, s5, s6, s7, s8⟩, h2, h3, h6, h7⟩ := h
  have e := h7 j (by omega) (by omega)
  have e' := h7 (j + 1) (by omega) (by omega)
  have g : RowA (sv (cp (sv w (a + 2) j (l j + l (j + 1))) (a + 2) (j + 2) (a + 2) (j + 1) (k - j - 2)) a 3 (k - 1)) a n b (k - 1) (merL l j) := by
    unfold RowA RowSh merL
    simp only [kdS, kdC, lnS, lnC, gvS, gvC]
    grind
  have hmj : merL l j j = l j + l (j + 1) := by unfold merL; grind
  obtain ⟨w', e1, e2, e3⟩ := s_halve (d := d) g (by omega) (j := j) (low := low) (by omega) (by omega) hlow
  refine ⟨w', ?_, Fr.trans (w' := sv w (a + 2) j (l j + l (j + 1))) (Fr.svI (by omega) (by omega)) (Fr.trans (Fr.cpI (r := a + 2) (by omega) (by omega)) (Fr.trans (Fr.svI (by omega) (by omega)) e2)), e3⟩
  refine xX5_mergeWithNext (Rn.ret ?_)
  rw [eX5_mergeWithNext_0]
  simp only [wl_eq, kdS, kdC, lnS, lnC]
  rw [s3, w32_eq (x := j + 1) (by omega) (by omega), w32_eq (x := j + 2) (by omega) (by omega)]
  grind [w32_eq, gvS, gvC, bN]
end RC2
