/-! ===== the law's cases (printed by wip/whole/cases.py) ===== -/
abbrev pvword (S : St) (a b : Int) : Int := wrd (bA (sA S) a) (nA (sA S) a) 0 b 32
abbrev pvdense (S : St) (a b c : Int) : Int := deF (sA S) a b c
abbrev pvload (S : St) (a : Int) : Int := loF (sA S) a
abbrev pvcentre (S : St) (a b : Int) : Int := ceF (sA S) a b
section LC
variable {w : sW} {S : St} {L i : Int}
theorem lc_feed (h : LwS w S L) (hi : 0 ≤ i ∧ i + 6 ≤ L) (hL : L ≤ 3072) : CaseL w L 240 i := by
  have e1 : w32 (i + 1) = i + 1 := w32_eq (by omega) (by omega)
  have a1 := h.2.2.ib hi (k := 1) (by omega)
  have e2 : w32 (i + 2) = i + 2 := w32_eq (by omega) (by omega)
  have a2 := h.2.2.ib hi (k := 2) (by omega)
  have e3 : w32 (i + 3) = i + 3 := w32_eq (by omega) (by omega)
  have a3 := h.2.2.ib hi (k := 3) (by omega)
  have e4 : w32 (i + 4) = i + 4 := w32_eq (by omega) (by omega)
  have a4 := h.2.2.ib hi (k := 4) (by omega)
  have e5 : w32 (i + 5) = i + 5 := w32_eq (by omega) (by omega)
  have a5 := h.2.2.ib hi (k := 5) (by omega)
  have k9 := h.1.k9
  have n3 := h.2.2.1.2.2
  obtain ⟨w1, x1, c1, m1, s1, t1, u1, v1⟩ := h.x (x_feed  h.1 (gv w 25 (i + 1)) (gv w 25 (i + 2)) (gv w 25 (i + 3)) (gv w 25 (i + 4)) (gv w 25 (i + 5)))
  obtain ⟨w2, x2, l2, u2, v2⟩ := LwS.y c1 s1 (y_feed  m1 (gv w 25 (i + 1)) (gv w 25 (i + 2)) (gv w 25 (i + 3)) (gv w 25 (i + 4)) (gv w 25 (i + 5)))
  refine ⟨w2, _, l2, by omega, by omega, fun res r => Rn.cut ?_ r⟩
  have k10 := m1.1.1.1
  have b1 := s1.ib hi (k := 1) (by omega)
  have b2 := s1.ib hi (k := 2) (by omega)
  have b3 := s1.ib hi (k := 3) (by omega)
  have b4 := s1.ib hi (k := 4) (by omega)
  have b5 := s1.ib hi (k := 5) (by omega)
  rw [eL_law_240, e1, e2, e3, e4, e5, if_pos a1, if_pos a2, if_pos a3, if_pos a4, if_pos a5, if_pos k9, x1]
  simp only [bI]
  rw [if_pos b1, if_pos b2, if_pos b3, if_pos b4, if_pos b5, if_pos k10, t1 (i + 1), t1 (i + 2), t1 (i + 3), t1 (i + 4), t1 (i + 5), x2]
  simp only []
  rw [if_pos (by simp)]
theorem lc_end (h : LwS w S L) (hi : 0 ≤ i ∧ i + 6 ≤ L) (hL : L ≤ 3072) : CaseL w L 313 i := by
  have e1 : w32 (i + 1) = i + 1 := w32_eq (by omega) (by omega)
  have a1 := h.2.2.ib hi (k := 1) (by omega)
  have k9 := h.1.k9
  have n3 := h.2.2.1.2.2
  obtain ⟨w1, x1, c1, m1, s1, t1, u1, v1⟩ := h.x (x_end  h.1 (gv w 25 (i + 1)))
  obtain ⟨w2, x2, l2, u2, v2⟩ := LwS.y c1 s1 (y_end  m1 (gv w 25 (i + 1)))
  refine ⟨w2, _, l2, by omega, by omega, fun res r => Rn.cut ?_ r⟩
  have k10 := m1.1.1.1
  have b1 := s1.ib hi (k := 1) (by omega)
  rw [eL_law_313, e1, if_pos a1, if_pos k9, x1]
  simp only [bI]
  rw [if_pos b1, if_pos k10, t1 (i + 1), x2]
  simp only []
  rw [if_pos (by simp)]
theorem lc_room (h : LwS w S L) (hi : 0 ≤ i ∧ i + 6 ≤ L) (hL : L ≤ 3072) : CaseL w L 338 i := by
  have k9 := h.1.k9
  have n3 := h.2.2.1.2.2
  obtain ⟨w1, x1, c1, m1, s1, t1, u1, v1⟩ := h.x (x_room  h.1 )
  obtain ⟨w2, x2, l2, u2, v2⟩ := LwS.y c1 s1 (y_room  m1 )
  refine ⟨w2, _, l2, by omega, by omega, fun res r => Rn.cut ?_ r⟩
  have k10 := m1.1.1.1
  rw [eL_law_338, if_pos k9, x1]
  simp only [bI]
  rw [if_pos k10, x2]
  simp only []
  rw [if_pos (by simp)]
theorem lc_fault (h : LwS w S L) (hi : 0 ≤ i ∧ i + 6 ≤ L) (hL : L ≤ 3072) : CaseL w L 351 i := by
  have k9 := h.1.k9
  have n3 := h.2.2.1.2.2
  obtain ⟨q, q', s, s', hc⟩ := h.1
  have hN : NowI w 32 q (sA S) := hc.1.1
  have hM : MoI w 91 (sA S) := h.2.1.2.1
  have x1 := p_fault (d := 49) k9
  have x2 := q_fault (d := 49) (m := 91) h.2.1.1.1.1
  have z1 : gv w 32 13 = sF S := hc.2.2.2.2.2.1
  have z2 : gv w 91 10 = sF S := h.2.1.2.2.2.2.2.2.2.1
  rw [z1] at x1
  rw [z2] at x2
  have m2 := Mf.svI w 91 0 0
  refine ⟨sv w 91 0 0, S, h.t0, by rw [m2.ucE]; omega, by rw [m2.usE]; omega, fun res r => Rn.cut ?_ r⟩
  rw [eL_law_351, if_pos k9, x1]
  simp only [bI]
  rw [if_pos h.2.1.1.1.1, x2]
  simp only []
  rw [if_pos (by simp)]
theorem lc_size (h : LwS w S L) (hi : 0 ≤ i ∧ i + 6 ≤ L) (hL : L ≤ 3072) : CaseL w L 364 i := by
  have e1 : w32 (i + 1) = i + 1 := w32_eq (by omega) (by omega)
  have a1 := h.2.2.ib hi (k := 1) (by omega)
  have k9 := h.1.k9
  have n3 := h.2.2.1.2.2
  obtain ⟨q, q', s, s', hc⟩ := h.1
  have hN : NowI w 32 q (sA S) := hc.1.1
  have hM : MoI w 91 (sA S) := h.2.1.2.1
  have x1 := p_size (d := 48) hN (gv w 25 (i + 1))
  have x2 := q_size (d := 47) hM (gv w 25 (i + 1))
  have m2 := Mf.svI w 91 0 0
  refine ⟨sv w 91 0 0, S, h.t0, by rw [m2.ucE]; omega, by rw [m2.usE]; omega, fun res r => Rn.cut ?_ r⟩
  rw [eL_law_364, e1, if_pos a1, if_pos k9, x1]
  simp only [bI]
  rw [if_pos a1, if_pos h.2.1.1.1.1, x2]
  simp only []
  rw [if_pos (by simp)]
theorem lc_bit (h : LwS w S L) (hi : 0 ≤ i ∧ i + 6 ≤ L) (hL : L ≤ 3072) : CaseL w L 389 i := by
  have e1 : w32 (i + 1) = i + 1 := w32_eq (by omega) (by omega)
  have a1 := h.2.2.ib hi (k := 1) (by omega)
  have e2 : w32 (i + 2) = i + 2 := w32_eq (by omega) (by omega)
  have a2 := h.2.2.ib hi (k := 2) (by omega)
  have k9 := h.1.k9
  have n3 := h.2.2.1.2.2
  obtain ⟨q, q', s, s', hc⟩ := h.1
  have hN : NowI w 32 q (sA S) := hc.1.1
  have hM : MoI w 91 (sA S) := h.2.1.2.1
  have x1 := p_bit (d := 48) hN (gv w 25 (i + 1)) (gv w 25 (i + 2))
  have x2 := q_bit (d := 47) hM (gv w 25 (i + 1)) (gv w 25 (i + 2))
  have m2 := Mf.svI w 91 0 0
  refine ⟨sv w 91 0 0, S, h.t0, by rw [m2.ucE]; omega, by rw [m2.usE]; omega, fun res r => Rn.cut ?_ r⟩
  rw [eL_law_389, e1, e2, if_pos a1, if_pos a2, if_pos k9, x1]
  simp only [bI]
  rw [if_pos a1, if_pos a2, if_pos h.2.1.1.1.1, x2]
  simp only []
  rw [if_pos (by simp)]
theorem lc_rank (h : LwS w S L) (hi : 0 ≤ i ∧ i + 6 ≤ L) (hL : L ≤ 3072) : CaseL w L 426 i := by
  have e1 : w32 (i + 1) = i + 1 := w32_eq (by omega) (by omega)
  have a1 := h.2.2.ib hi (k := 1) (by omega)
  have e2 : w32 (i + 2) = i + 2 := w32_eq (by omega) (by omega)
  have a2 := h.2.2.ib hi (k := 2) (by omega)
  have e3 : w32 (i + 3) = i + 3 := w32_eq (by omega) (by omega)
  have a3 := h.2.2.ib hi (k := 3) (by omega)
  have k9 := h.1.k9
  have n3 := h.2.2.1.2.2
  obtain ⟨q, q', s, s', hc⟩ := h.1
  have hN : NowI w 32 q (sA S) := hc.1.1
  have hM : MoI w 91 (sA S) := h.2.1.2.1
  have x1 := p_rank (d := 47) hN (gv w 25 (i + 1)) (gv w 25 (i + 2)) (gv w 25 (i + 3))
  have x2 := q_rank (d := 47) hM (gv w 25 (i + 1)) (gv w 25 (i + 2)) (gv w 25 (i + 3))
  have m2 := Mf.svI w 91 0 0
  refine ⟨sv w 91 0 0, S, h.t0, by rw [m2.ucE]; omega, by rw [m2.usE]; omega, fun res r => Rn.cut ?_ r⟩
  rw [eL_law_426, e1, e2, e3, if_pos a1, if_pos a2, if_pos a3, if_pos k9, x1]
  simp only [bI]
  rw [if_pos a1, if_pos a2, if_pos a3, if_pos h.2.1.1.1.1, x2]
  simp only []
  rw [if_pos (by simp)]
theorem lc_select (h : LwS w S L) (hi : 0 ≤ i ∧ i + 6 ≤ L) (hL : L ≤ 3072) : CaseL w L 475 i := by
  have e1 : w32 (i + 1) = i + 1 := w32_eq (by omega) (by omega)
  have a1 := h.2.2.ib hi (k := 1) (by omega)
  have e2 : w32 (i + 2) = i + 2 := w32_eq (by omega) (by omega)
  have a2 := h.2.2.ib hi (k := 2) (by omega)
  have e3 : w32 (i + 3) = i + 3 := w32_eq (by omega) (by omega)
  have a3 := h.2.2.ib hi (k := 3) (by omega)
  have k9 := h.1.k9
  have n3 := h.2.2.1.2.2
  obtain ⟨q, q', s, s', hc⟩ := h.1
  have hN : NowI w 32 q (sA S) := hc.1.1
  have hM : MoI w 91 (sA S) := h.2.1.2.1
  have x1 := p_select (d := 48) hN (gv w 25 (i + 1)) (gv w 25 (i + 2)) (gv w 25 (i + 3))
  have x2 := q_select (d := 47) hM (gv w 25 (i + 1)) (gv w 25 (i + 2)) (gv w 25 (i + 3))
  have m2 := Mf.svI w 91 0 0
  refine ⟨sv w 91 0 0, S, h.t0, by rw [m2.ucE]; omega, by rw [m2.usE]; omega, fun res r => Rn.cut ?_ r⟩
  rw [eL_law_475, e1, e2, e3, if_pos a1, if_pos a2, if_pos a3, if_pos k9, x1]
  simp only [bI]
  rw [if_pos a1, if_pos a2, if_pos a3, if_pos h.2.1.1.1.1, x2]
  simp only []
  rw [if_pos (by simp)]
theorem lc_find (h : LwS w S L) (hi : 0 ≤ i ∧ i + 6 ≤ L) (hL : L ≤ 3072) : CaseL w L 524 i := by
  have e1 : w32 (i + 1) = i + 1 := w32_eq (by omega) (by omega)
  have a1 := h.2.2.ib hi (k := 1) (by omega)
  have e2 : w32 (i + 2) = i + 2 := w32_eq (by omega) (by omega)
  have a2 := h.2.2.ib hi (k := 2) (by omega)
  have e3 : w32 (i + 3) = i + 3 := w32_eq (by omega) (by omega)
  have a3 := h.2.2.ib hi (k := 3) (by omega)
  have k9 := h.1.k9
  have n3 := h.2.2.1.2.2
  obtain ⟨q, q', s, s', hc⟩ := h.1
  have hN : NowI w 32 q (sA S) := hc.1.1
  have hM : MoI w 91 (sA S) := h.2.1.2.1
  have x1 := p_find (d := 48) hN (gv w 25 (i + 1)) (gv w 25 (i + 2)) (gv w 25 (i + 3))
  have x2 := q_find (d := 47) hM (gv w 25 (i + 1)) (gv w 25 (i + 2)) (gv w 25 (i + 3))
  have m2 := Mf.svI w 91 0 0
  refine ⟨sv w 91 0 0, S, h.t0, by rw [m2.ucE]; omega, by rw [m2.usE]; omega, fun res r => Rn.cut ?_ r⟩
  rw [eL_law_524, e1, e2, e3, if_pos a1, if_pos a2, if_pos a3, if_pos k9, x1]
  simp only [bI]
  rw [if_pos a1, if_pos a2, if_pos a3, if_pos h.2.1.1.1.1, x2]
  simp only []
  rw [if_pos (by simp)]
theorem lc_runs (h : LwS w S L) (hi : 0 ≤ i ∧ i + 6 ≤ L) (hL : L ≤ 3072) : CaseL w L 573 i := by
  have e1 : w32 (i + 1) = i + 1 := w32_eq (by omega) (by omega)
  have a1 := h.2.2.ib hi (k := 1) (by omega)
  have k9 := h.1.k9
  have n3 := h.2.2.1.2.2
  obtain ⟨q, q', s, s', hc⟩ := h.1
  have hN : NowI w 32 q (sA S) := hc.1.1
  have hM : MoI w 91 (sA S) := h.2.1.2.1
  have x1 := p_runs (d := 48) hN (gv w 25 (i + 1))
  have x2 := q_runs (d := 47) hM (gv w 25 (i + 1))
  have m2 := Mf.svI w 91 0 0
  refine ⟨sv w 91 0 0, S, h.t0, by rw [m2.ucE]; omega, by rw [m2.usE]; omega, fun res r => Rn.cut ?_ r⟩
  rw [eL_law_573, e1, if_pos a1, if_pos k9, x1]
  simp only [bI]
  rw [if_pos a1, if_pos h.2.1.1.1.1, x2]
  simp only []
  rw [if_pos (by simp)]
theorem lc_longest (h : LwS w S L) (hi : 0 ≤ i ∧ i + 6 ≤ L) (hL : L ≤ 3072) : CaseL w L 598 i := by
  have e1 : w32 (i + 1) = i + 1 := w32_eq (by omega) (by omega)
  have a1 := h.2.2.ib hi (k := 1) (by omega)
  have e2 : w32 (i + 2) = i + 2 := w32_eq (by omega) (by omega)
  have a2 := h.2.2.ib hi (k := 2) (by omega)
  have k9 := h.1.k9
  have n3 := h.2.2.1.2.2
  obtain ⟨q, q', s, s', hc⟩ := h.1
  have hN : NowI w 32 q (sA S) := hc.1.1
  have hM : MoI w 91 (sA S) := h.2.1.2.1
  have x1 := p_longest (d := 48) hN (gv w 25 (i + 1)) (gv w 25 (i + 2))
  have x2 := q_longest (d := 47) hM (gv w 25 (i + 1)) (gv w 25 (i + 2))
  have m2 := Mf.svI w 91 0 0
  refine ⟨sv w 91 0 0, S, h.t0, by rw [m2.ucE]; omega, by rw [m2.usE]; omega, fun res r => Rn.cut ?_ r⟩
  rw [eL_law_598, e1, e2, if_pos a1, if_pos a2, if_pos k9, x1]
  simp only [bI]
  rw [if_pos a1, if_pos a2, if_pos h.2.1.1.1.1, x2]
  simp only []
  rw [if_pos (by simp)]
theorem lc_word (h : LwS w S L) (hi : 0 ≤ i ∧ i + 6 ≤ L) (hL : L ≤ 3072) : CaseL w L 635 i := by
  have e1 : w32 (i + 1) = i + 1 := w32_eq (by omega) (by omega)
  have a1 := h.2.2.ib hi (k := 1) (by omega)
  have e2 : w32 (i + 2) = i + 2 := w32_eq (by omega) (by omega)
  have a2 := h.2.2.ib hi (k := 2) (by omega)
  have k9 := h.1.k9
  have n3 := h.2.2.1.2.2
  obtain ⟨q, q', s, s', hc⟩ := h.1
  have hN : NowI w 32 q (sA S) := hc.1.1
  have px := p_word (d := 46) hN (gv w 25 (i + 1)) (gv w 25 (i + 2))
  have o7 := h.2.2.2
  by_cases c : isR (sA S) (gv w 25 (i + 1)) ∧ 0 ≤ gv w 25 (i + 2) ∧ gv w 25 (i + 2) ≤ nA (sA S) (gv w 25 (i + 1))
  · rw [if_pos c] at px
    have x1 : Ex pro 50 279 w [rV 32, iV (gv w 25 (i + 1)), iV (gv w 25 (i + 2)), rV 107] = some (some (iV 0), sv w 107 0 (pvword S (gv w 25 (i + 1)) (gv w 25 (i + 2)))) := by
      rw [ex_hlp (q := 111) rfl]
      show hlpF (Ex pro 49 111 w [rV 32, iV (gv w 25 (i + 1)), iV (gv w 25 (i + 2))]) 107 = _
      rw [px]
      show (if kd w 107 = 22 ∧ 0 < ln w 107 then (some (some (iV 0), sv w 107 0 _) : Option (Option sV × sW)) else none) = _
      rw [if_pos ⟨o7.1, by omega⟩]
    have l1 := h.out (v := pvword S (gv w 25 (i + 1)) (gv w 25 (i + 2)))
    have e107 : gv (sv w 107 0 (pvword S (gv w 25 (i + 1)) (gv w 25 (i + 2)))) 107 0 = pvword S (gv w 25 (i + 1)) (gv w 25 (i + 2)) := gvSS _ _ _ _
    have t1 : ∀ j, gv (sv w 107 0 (pvword S (gv w 25 (i + 1)) (gv w 25 (i + 2)))) 25 j = gv w 25 j := fun j => (Mf.svI w 107 0 _).gvE (by omega)
    have u1 : uc (sv w 107 0 (pvword S (gv w 25 (i + 1)) (gv w 25 (i + 2)))) = uc w := (Mf.svI w 107 0 _).ucE
    have v1 : us (sv w 107 0 (pvword S (gv w 25 (i + 1)) (gv w 25 (i + 2)))) = us w := (Mf.svI w 107 0 _).usE
    generalize sv w 107 0 (pvword S (gv w 25 (i + 1)) (gv w 25 (i + 2))) = w1 at x1 l1 e107 t1 u1 v1
    have x2 := q_word (d := 47) l1.2.1.2.1 (gv w 25 (i + 1)) (gv w 25 (i + 2))
    rw [if_pos c, if_pos c] at x2
    have l2 := l1.t0 (v := 0)
    have z0 : gv (sv w1 91 0 0) 91 0 = 0 := gvSS _ _ _ _
    have m2 := Mf.svI w1 91 0 0
    generalize sv w1 91 0 0 = w2 at x2 l2 z0 m2
    have y7 : gv w2 107 0 = gv w1 107 0 := m2.gvE (by omega)
    have u2 := m2.ucE
    have v2 := m2.usE
    have x3 := q_thrown (d := 49) (w := w2) (m := 91) l2.2.1.1.1.1
    rw [z0] at x3
    refine ⟨w2, S, l2, by omega, by omega, fun res r => Rn.cut ?_ r⟩
    have b1 := l1.2.2.ib hi (k := 1) (by omega)
    have b2 := l1.2.2.ib hi (k := 2) (by omega)
    rw [eL_law_635, e1, e2, if_pos a1, if_pos a2, x1]
    simp only [bI]
    rw [if_pos b1, if_pos b2, if_pos l1.2.1.1.1.1, t1 (i + 1), t1 (i + 2), x2]
    simp only []
    rw [if_pos l2.2.1.1.1.1, x3]
    simp only []
    rw [if_pos (by simp), if_pos (by simp), if_pos ⟨l2.2.2.2.1, by omega, by rw [l2.2.2.2.2]; omega⟩, y7, e107, if_pos (cmp_eq.mpr rfl)]
  · rw [if_neg c] at px
    have x1 : Ex pro 50 279 w [rV 32, iV (gv w 25 (i + 1)), iV (gv w 25 (i + 2)), rV 107] = some (some (iV 1), bp w 1 6) := by
      rw [ex_hlp (q := 111) rfl]
      show hlpF (Ex pro 49 111 w [rV 32, iV (gv w 25 (i + 1)), iV (gv w 25 (i + 2))]) 107 = _
      rw [px]
      rfl
    have l1 := h.bp (c := 1) (n := 6)
    have t1 : ∀ j, gv (bp w 1 6) 25 j = gv w 25 j := fun j => rfl
    have u1 : uc (bp w 1 6) = uc w + 1 := rfl
    have v1 : us (bp w 1 6) = us w + 6 := rfl
    generalize bp w 1 6 = w1 at x1 l1 t1 u1 v1
    have x2 := q_word (d := 47) l1.2.1.2.1 (gv w 25 (i + 1)) (gv w 25 (i + 2))
    rw [if_neg c, if_neg c] at x2
    have l2 := l1.t0 (v := 1)
    have z0 : gv (sv w1 91 0 1) 91 0 = 1 := gvSS _ _ _ _
    have m2 := Mf.svI w1 91 0 1
    generalize sv w1 91 0 1 = w2 at x2 l2 z0 m2
    have u2 := m2.ucE
    have v2 := m2.usE
    have x3 := q_thrown (d := 49) (w := w2) (m := 91) l2.2.1.1.1.1
    rw [z0] at x3
    refine ⟨w2, S, l2, by omega, by omega, fun res r => Rn.cut ?_ r⟩
    have b1 := l1.2.2.ib hi (k := 1) (by omega)
    have b2 := l1.2.2.ib hi (k := 2) (by omega)
    rw [eL_law_635, e1, e2, if_pos a1, if_pos a2, x1]
    simp only [bI]
    rw [if_pos b1, if_pos b2, if_pos l1.2.1.1.1.1, t1 (i + 1), t1 (i + 2), x2]
    simp only []
    rw [if_pos l2.2.1.1.1.1, x3]
    simp only []
    rw [if_pos (by simp), if_neg (by simp)]
theorem lc_leaves (h : LwS w S L) (hi : 0 ≤ i ∧ i + 6 ≤ L) (hL : L ≤ 3072) : CaseL w L 703 i := by
  have e1 : w32 (i + 1) = i + 1 := w32_eq (by omega) (by omega)
  have a1 := h.2.2.ib hi (k := 1) (by omega)
  have k9 := h.1.k9
  have n3 := h.2.2.1.2.2
  obtain ⟨q, q', s, s', hc⟩ := h.1
  have hN : NowI w 32 q (sA S) := hc.1.1
  have hM : MoI w 91 (sA S) := h.2.1.2.1
  have x1 := p_leaves (d := 48) hN (gv w 25 (i + 1))
  have x2 := q_leaves (d := 47) hM (gv w 25 (i + 1))
  have m2 := Mf.svI w 91 0 0
  refine ⟨sv w 91 0 0, S, h.t0, by rw [m2.ucE]; omega, by rw [m2.usE]; omega, fun res r => Rn.cut ?_ r⟩
  rw [eL_law_703, e1, if_pos a1, if_pos k9, x1]
  simp only [bI]
  rw [if_pos a1, if_pos h.2.1.1.1.1, x2]
  simp only []
  rw [if_pos (by simp)]
theorem lc_leaf (h : LwS w S L) (hi : 0 ≤ i ∧ i + 6 ≤ L) (hL : L ≤ 3072) : CaseL w L 728 i := by
  have e1 : w32 (i + 1) = i + 1 := w32_eq (by omega) (by omega)
  have a1 := h.2.2.ib hi (k := 1) (by omega)
  have e2 : w32 (i + 2) = i + 2 := w32_eq (by omega) (by omega)
  have a2 := h.2.2.ib hi (k := 2) (by omega)
  have e3 : w32 (i + 3) = i + 3 := w32_eq (by omega) (by omega)
  have a3 := h.2.2.ib hi (k := 3) (by omega)
  have k9 := h.1.k9
  have n3 := h.2.2.1.2.2
  obtain ⟨q, q', s, s', hc⟩ := h.1
  have hN : NowI w 32 q (sA S) := hc.1.1
  have hM : MoI w 91 (sA S) := h.2.1.2.1
  have x1 := p_leaf (d := 47) hN (gv w 25 (i + 1)) (gv w 25 (i + 2)) (gv w 25 (i + 3))
  have x2 := q_leaf (d := 47) hM (gv w 25 (i + 1)) (gv w 25 (i + 2)) (gv w 25 (i + 3))
  have m2 := Mf.svI w 91 0 0
  refine ⟨sv w 91 0 0, S, h.t0, by rw [m2.ucE]; omega, by rw [m2.usE]; omega, fun res r => Rn.cut ?_ r⟩
  rw [eL_law_728, e1, e2, e3, if_pos a1, if_pos a2, if_pos a3, if_pos k9, x1]
  simp only [bI]
  rw [if_pos a1, if_pos a2, if_pos a3, if_pos h.2.1.1.1.1, x2]
  simp only []
  rw [if_pos (by simp)]
theorem lc_tree (h : LwS w S L) (hi : 0 ≤ i ∧ i + 6 ≤ L) (hL : L ≤ 3072) : CaseL w L 777 i := by
  have e1 : w32 (i + 1) = i + 1 := w32_eq (by omega) (by omega)
  have a1 := h.2.2.ib hi (k := 1) (by omega)
  have e2 : w32 (i + 2) = i + 2 := w32_eq (by omega) (by omega)
  have a2 := h.2.2.ib hi (k := 2) (by omega)
  have k9 := h.1.k9
  have n3 := h.2.2.1.2.2
  obtain ⟨q, q', s, s', hc⟩ := h.1
  have hN : NowI w 32 q (sA S) := hc.1.1
  have hM : MoI w 91 (sA S) := h.2.1.2.1
  have x1 := p_tree (d := 41) hN (gv w 25 (i + 1)) (gv w 25 (i + 2))
  have x2 := q_tree (d := 40) hM (gv w 25 (i + 1)) (gv w 25 (i + 2))
  have m2 := Mf.svI w 91 0 0
  refine ⟨sv w 91 0 0, S, h.t0, by rw [m2.ucE]; omega, by rw [m2.usE]; omega, fun res r => Rn.cut ?_ r⟩
  rw [eL_law_777, e1, e2, if_pos a1, if_pos a2, if_pos k9, x1]
  simp only [bI]
  rw [if_pos a1, if_pos a2, if_pos h.2.1.1.1.1, x2]
  simp only []
  rw [if_pos (by simp)]
theorem lc_dense (h : LwS w S L) (hi : 0 ≤ i ∧ i + 6 ≤ L) (hL : L ≤ 3072) : CaseL w L 814 i := by
  have e1 : w32 (i + 1) = i + 1 := w32_eq (by omega) (by omega)
  have a1 := h.2.2.ib hi (k := 1) (by omega)
  have e2 : w32 (i + 2) = i + 2 := w32_eq (by omega) (by omega)
  have a2 := h.2.2.ib hi (k := 2) (by omega)
  have e3 : w32 (i + 3) = i + 3 := w32_eq (by omega) (by omega)
  have a3 := h.2.2.ib hi (k := 3) (by omega)
  have k9 := h.1.k9
  have n3 := h.2.2.1.2.2
  obtain ⟨q, q', s, s', hc⟩ := h.1
  have hN : NowI w 32 q (sA S) := hc.1.1
  have px := p_dense (d := 46) hN (r := gv w 25 (i + 1)) (n3 (i + 2)) (n3 (i + 3))
  have o7 := h.2.2.2
  by_cases c : deC (sA S) (gv w 25 (i + 1)) (gv w 25 (i + 2)) (gv w 25 (i + 3))
  · rw [if_pos c] at px
    have x1 : Ex pro 50 280 w [rV 32, iV (gv w 25 (i + 1)), iV (gv w 25 (i + 2)), iV (gv w 25 (i + 3)), rV 107] = some (some (iV 0), sv w 107 0 (pvdense S (gv w 25 (i + 1)) (gv w 25 (i + 2)) (gv w 25 (i + 3)))) := by
      rw [ex_hlp (q := 115) rfl]
      show hlpF (Ex pro 49 115 w [rV 32, iV (gv w 25 (i + 1)), iV (gv w 25 (i + 2)), iV (gv w 25 (i + 3))]) 107 = _
      rw [px]
      show (if kd w 107 = 22 ∧ 0 < ln w 107 then (some (some (iV 0), sv w 107 0 _) : Option (Option sV × sW)) else none) = _
      rw [if_pos ⟨o7.1, by omega⟩]
    have l1 := h.out (v := pvdense S (gv w 25 (i + 1)) (gv w 25 (i + 2)) (gv w 25 (i + 3)))
    have e107 : gv (sv w 107 0 (pvdense S (gv w 25 (i + 1)) (gv w 25 (i + 2)) (gv w 25 (i + 3)))) 107 0 = pvdense S (gv w 25 (i + 1)) (gv w 25 (i + 2)) (gv w 25 (i + 3)) := gvSS _ _ _ _
    have t1 : ∀ j, gv (sv w 107 0 (pvdense S (gv w 25 (i + 1)) (gv w 25 (i + 2)) (gv w 25 (i + 3)))) 25 j = gv w 25 j := fun j => (Mf.svI w 107 0 _).gvE (by omega)
    have u1 : uc (sv w 107 0 (pvdense S (gv w 25 (i + 1)) (gv w 25 (i + 2)) (gv w 25 (i + 3)))) = uc w := (Mf.svI w 107 0 _).ucE
    have v1 : us (sv w 107 0 (pvdense S (gv w 25 (i + 1)) (gv w 25 (i + 2)) (gv w 25 (i + 3)))) = us w := (Mf.svI w 107 0 _).usE
    generalize sv w 107 0 (pvdense S (gv w 25 (i + 1)) (gv w 25 (i + 2)) (gv w 25 (i + 3))) = w1 at x1 l1 e107 t1 u1 v1
    obtain ⟨w2, x2, m2, z0⟩ := q_dense (d := 46) l1.2.1.2.1 (r := gv w 25 (i + 1)) (n3 (i + 2)) (n3 (i + 3))
    rw [if_pos c] at x2 z0
    have l2 := l1.qf m2
    have y7 : gv w2 107 0 = gv w1 107 0 := m2.mf.gvE (by omega)
    have u2 := m2.mf.ucE
    have v2 := m2.mf.usE
    have x3 := q_thrown (d := 49) (w := w2) (m := 91) l2.2.1.1.1.1
    rw [z0] at x3
    refine ⟨w2, S, l2, by omega, by omega, fun res r => Rn.cut ?_ r⟩
    have b1 := l1.2.2.ib hi (k := 1) (by omega)
    have b2 := l1.2.2.ib hi (k := 2) (by omega)
    have b3 := l1.2.2.ib hi (k := 3) (by omega)
    rw [eL_law_814, e1, e2, e3, if_pos a1, if_pos a2, if_pos a3, x1]
    simp only [bI]
    rw [if_pos b1, if_pos b2, if_pos b3, if_pos l1.2.1.1.1.1, t1 (i + 1), t1 (i + 2), t1 (i + 3), x2]
    simp only []
    rw [if_pos l2.2.1.1.1.1, x3]
    simp only []
    rw [if_pos (by simp), if_pos (by simp), if_pos ⟨l2.2.2.2.1, by omega, by rw [l2.2.2.2.2]; omega⟩, y7, e107, if_pos (cmp_eq.mpr rfl)]
  · rw [if_neg c] at px
    have x1 : Ex pro 50 280 w [rV 32, iV (gv w 25 (i + 1)), iV (gv w 25 (i + 2)), iV (gv w 25 (i + 3)), rV 107] = some (some (iV 1), bp w 1 6) := by
      rw [ex_hlp (q := 115) rfl]
      show hlpF (Ex pro 49 115 w [rV 32, iV (gv w 25 (i + 1)), iV (gv w 25 (i + 2)), iV (gv w 25 (i + 3))]) 107 = _
      rw [px]
      rfl
    have l1 := h.bp (c := 1) (n := 6)
    have t1 : ∀ j, gv (bp w 1 6) 25 j = gv w 25 j := fun j => rfl
    have u1 : uc (bp w 1 6) = uc w + 1 := rfl
    have v1 : us (bp w 1 6) = us w + 6 := rfl
    generalize bp w 1 6 = w1 at x1 l1 t1 u1 v1
    obtain ⟨w2, x2, m2, z0⟩ := q_dense (d := 46) l1.2.1.2.1 (r := gv w 25 (i + 1)) (n3 (i + 2)) (n3 (i + 3))
    rw [if_neg c] at x2 z0
    have l2 := l1.qf m2
    have u2 := m2.mf.ucE
    have v2 := m2.mf.usE
    have x3 := q_thrown (d := 49) (w := w2) (m := 91) l2.2.1.1.1.1
    rw [z0] at x3
    refine ⟨w2, S, l2, by omega, by omega, fun res r => Rn.cut ?_ r⟩
    have b1 := l1.2.2.ib hi (k := 1) (by omega)
    have b2 := l1.2.2.ib hi (k := 2) (by omega)
    have b3 := l1.2.2.ib hi (k := 3) (by omega)
    rw [eL_law_814, e1, e2, e3, if_pos a1, if_pos a2, if_pos a3, x1]
    simp only [bI]
    rw [if_pos b1, if_pos b2, if_pos b3, if_pos l1.2.1.1.1.1, t1 (i + 1), t1 (i + 2), t1 (i + 3), x2]
    simp only []
    rw [if_pos l2.2.1.1.1.1, x3]
    simp only []
    rw [if_pos (by simp), if_neg (by simp)]
theorem lc_load (h : LwS w S L) (hi : 0 ≤ i ∧ i + 6 ≤ L) (hL : L ≤ 3072) : CaseL w L 894 i := by
  have e1 : w32 (i + 1) = i + 1 := w32_eq (by omega) (by omega)
  have a1 := h.2.2.ib hi (k := 1) (by omega)
  have k9 := h.1.k9
  have n3 := h.2.2.1.2.2
  obtain ⟨q, q', s, s', hc⟩ := h.1
  have hN : NowI w 32 q (sA S) := hc.1.1
  have px := p_load (d := 46) hN (gv w 25 (i + 1))
  have o7 := h.2.2.2
  by_cases c : loC (sA S) (gv w 25 (i + 1))
  · rw [if_pos c] at px
    have x1 : Ex pro 50 281 w [rV 32, iV (gv w 25 (i + 1)), rV 107] = some (some (iV 0), sv w 107 0 (pvload S (gv w 25 (i + 1)))) := by
      rw [ex_hlp (q := 116) rfl]
      show hlpF (Ex pro 49 116 w [rV 32, iV (gv w 25 (i + 1))]) 107 = _
      rw [px]
      show (if kd w 107 = 22 ∧ 0 < ln w 107 then (some (some (iV 0), sv w 107 0 _) : Option (Option sV × sW)) else none) = _
      rw [if_pos ⟨o7.1, by omega⟩]
    have l1 := h.out (v := pvload S (gv w 25 (i + 1)))
    have e107 : gv (sv w 107 0 (pvload S (gv w 25 (i + 1)))) 107 0 = pvload S (gv w 25 (i + 1)) := gvSS _ _ _ _
    have t1 : ∀ j, gv (sv w 107 0 (pvload S (gv w 25 (i + 1)))) 25 j = gv w 25 j := fun j => (Mf.svI w 107 0 _).gvE (by omega)
    have u1 : uc (sv w 107 0 (pvload S (gv w 25 (i + 1)))) = uc w := (Mf.svI w 107 0 _).ucE
    have v1 : us (sv w 107 0 (pvload S (gv w 25 (i + 1)))) = us w := (Mf.svI w 107 0 _).usE
    generalize sv w 107 0 (pvload S (gv w 25 (i + 1))) = w1 at x1 l1 e107 t1 u1 v1
    obtain ⟨w2, x2, m2, z0⟩ := q_load (d := 46) l1.2.1.2.1 (gv w 25 (i + 1))
    rw [if_pos c] at x2 z0
    have l2 := l1.qf m2
    have y7 : gv w2 107 0 = gv w1 107 0 := m2.mf.gvE (by omega)
    have u2 := m2.mf.ucE
    have v2 := m2.mf.usE
    have x3 := q_thrown (d := 49) (w := w2) (m := 91) l2.2.1.1.1.1
    rw [z0] at x3
    refine ⟨w2, S, l2, by omega, by omega, fun res r => Rn.cut ?_ r⟩
    have b1 := l1.2.2.ib hi (k := 1) (by omega)
    rw [eL_law_894, e1, if_pos a1, x1]
    simp only [bI]
    rw [if_pos b1, if_pos l1.2.1.1.1.1, t1 (i + 1), x2]
    simp only []
    rw [if_pos l2.2.1.1.1.1, x3]
    simp only []
    rw [if_pos (by simp), if_pos (by simp), if_pos ⟨l2.2.2.2.1, by omega, by rw [l2.2.2.2.2]; omega⟩, y7, e107, if_pos (cmp_eq.mpr rfl)]
  · rw [if_neg c] at px
    have x1 : Ex pro 50 281 w [rV 32, iV (gv w 25 (i + 1)), rV 107] = some (some (iV 1), bp w 1 6) := by
      rw [ex_hlp (q := 116) rfl]
      show hlpF (Ex pro 49 116 w [rV 32, iV (gv w 25 (i + 1))]) 107 = _
      rw [px]
      rfl
    have l1 := h.bp (c := 1) (n := 6)
    have t1 : ∀ j, gv (bp w 1 6) 25 j = gv w 25 j := fun j => rfl
    have u1 : uc (bp w 1 6) = uc w + 1 := rfl
    have v1 : us (bp w 1 6) = us w + 6 := rfl
    generalize bp w 1 6 = w1 at x1 l1 t1 u1 v1
    obtain ⟨w2, x2, m2, z0⟩ := q_load (d := 46) l1.2.1.2.1 (gv w 25 (i + 1))
    rw [if_neg c] at x2 z0
    have l2 := l1.qf m2
    have u2 := m2.mf.ucE
    have v2 := m2.mf.usE
    have x3 := q_thrown (d := 49) (w := w2) (m := 91) l2.2.1.1.1.1
    rw [z0] at x3
    refine ⟨w2, S, l2, by omega, by omega, fun res r => Rn.cut ?_ r⟩
    have b1 := l1.2.2.ib hi (k := 1) (by omega)
    rw [eL_law_894, e1, if_pos a1, x1]
    simp only [bI]
    rw [if_pos b1, if_pos l1.2.1.1.1.1, t1 (i + 1), x2]
    simp only []
    rw [if_pos l2.2.1.1.1.1, x3]
    simp only []
    rw [if_pos (by simp), if_neg (by simp)]
theorem lc_centre (h : LwS w S L) (hi : 0 ≤ i ∧ i + 6 ≤ L) (hL : L ≤ 3072) : CaseL w L 950 i := by
  have e1 : w32 (i + 1) = i + 1 := w32_eq (by omega) (by omega)
  have a1 := h.2.2.ib hi (k := 1) (by omega)
  have e2 : w32 (i + 2) = i + 2 := w32_eq (by omega) (by omega)
  have a2 := h.2.2.ib hi (k := 2) (by omega)
  have k9 := h.1.k9
  have n3 := h.2.2.1.2.2
  obtain ⟨q, q', s, s', hc⟩ := h.1
  have hN : NowI w 32 q (sA S) := hc.1.1
  have px := p_centre (d := 46) hN (gv w 25 (i + 1)) (gv w 25 (i + 2))
  have o7 := h.2.2.2
  by_cases c : ceC (sA S) (gv w 25 (i + 1)) (gv w 25 (i + 2))
  · rw [if_pos c] at px
    have x1 : Ex pro 50 282 w [rV 32, iV (gv w 25 (i + 1)), iV (gv w 25 (i + 2)), rV 107] = some (some (iV 0), sv w 107 0 (pvcentre S (gv w 25 (i + 1)) (gv w 25 (i + 2)))) := by
      rw [ex_hlp (q := 117) rfl]
      show hlpF (Ex pro 49 117 w [rV 32, iV (gv w 25 (i + 1)), iV (gv w 25 (i + 2))]) 107 = _
      rw [px]
      show (if kd w 107 = 22 ∧ 0 < ln w 107 then (some (some (iV 0), sv w 107 0 _) : Option (Option sV × sW)) else none) = _
      rw [if_pos ⟨o7.1, by omega⟩]
    have l1 := h.out (v := pvcentre S (gv w 25 (i + 1)) (gv w 25 (i + 2)))
    have e107 : gv (sv w 107 0 (pvcentre S (gv w 25 (i + 1)) (gv w 25 (i + 2)))) 107 0 = pvcentre S (gv w 25 (i + 1)) (gv w 25 (i + 2)) := gvSS _ _ _ _
    have t1 : ∀ j, gv (sv w 107 0 (pvcentre S (gv w 25 (i + 1)) (gv w 25 (i + 2)))) 25 j = gv w 25 j := fun j => (Mf.svI w 107 0 _).gvE (by omega)
    have u1 : uc (sv w 107 0 (pvcentre S (gv w 25 (i + 1)) (gv w 25 (i + 2)))) = uc w := (Mf.svI w 107 0 _).ucE
    have v1 : us (sv w 107 0 (pvcentre S (gv w 25 (i + 1)) (gv w 25 (i + 2)))) = us w := (Mf.svI w 107 0 _).usE
    generalize sv w 107 0 (pvcentre S (gv w 25 (i + 1)) (gv w 25 (i + 2))) = w1 at x1 l1 e107 t1 u1 v1
    obtain ⟨w2, x2, m2, z0⟩ := q_centre (d := 46) l1.2.1.2.1 (gv w 25 (i + 1)) (gv w 25 (i + 2))
    rw [if_pos c] at x2 z0
    have l2 := l1.qf m2
    have y7 : gv w2 107 0 = gv w1 107 0 := m2.mf.gvE (by omega)
    have u2 := m2.mf.ucE
    have v2 := m2.mf.usE
    have x3 := q_thrown (d := 49) (w := w2) (m := 91) l2.2.1.1.1.1
    rw [z0] at x3
    refine ⟨w2, S, l2, by omega, by omega, fun res r => Rn.cut ?_ r⟩
    have b1 := l1.2.2.ib hi (k := 1) (by omega)
    have b2 := l1.2.2.ib hi (k := 2) (by omega)
    rw [eL_law_950, e1, e2, if_pos a1, if_pos a2, x1]
    simp only [bI]
    rw [if_pos b1, if_pos b2, if_pos l1.2.1.1.1.1, t1 (i + 1), t1 (i + 2), x2]
    simp only []
    rw [if_pos l2.2.1.1.1.1, x3]
    simp only []
    rw [if_pos (by simp), if_pos (by simp), if_pos ⟨l2.2.2.2.1, by omega, by rw [l2.2.2.2.2]; omega⟩, y7, e107, if_pos (cmp_eq.mpr rfl)]
  · rw [if_neg c] at px
    have x1 : Ex pro 50 282 w [rV 32, iV (gv w 25 (i + 1)), iV (gv w 25 (i + 2)), rV 107] = some (some (iV 1), bp w 1 6) := by
      rw [ex_hlp (q := 117) rfl]
      show hlpF (Ex pro 49 117 w [rV 32, iV (gv w 25 (i + 1)), iV (gv w 25 (i + 2))]) 107 = _
      rw [px]
      rfl
    have l1 := h.bp (c := 1) (n := 6)
    have t1 : ∀ j, gv (bp w 1 6) 25 j = gv w 25 j := fun j => rfl
    have u1 : uc (bp w 1 6) = uc w + 1 := rfl
    have v1 : us (bp w 1 6) = us w + 6 := rfl
    generalize bp w 1 6 = w1 at x1 l1 t1 u1 v1
    obtain ⟨w2, x2, m2, z0⟩ := q_centre (d := 46) l1.2.1.2.1 (gv w 25 (i + 1)) (gv w 25 (i + 2))
    rw [if_neg c] at x2 z0
    have l2 := l1.qf m2
    have u2 := m2.mf.ucE
    have v2 := m2.mf.usE
    have x3 := q_thrown (d := 49) (w := w2) (m := 91) l2.2.1.1.1.1
    rw [z0] at x3
    refine ⟨w2, S, l2, by omega, by omega, fun res r => Rn.cut ?_ r⟩
    have b1 := l1.2.2.ib hi (k := 1) (by omega)
    have b2 := l1.2.2.ib hi (k := 2) (by omega)
    rw [eL_law_950, e1, e2, if_pos a1, if_pos a2, x1]
    simp only [bI]
    rw [if_pos b1, if_pos b2, if_pos l1.2.1.1.1.1, t1 (i + 1), t1 (i + 2), x2]
    simp only []
    rw [if_pos l2.2.1.1.1.1, x3]
    simp only []
    rw [if_pos (by simp), if_neg (by simp)]
theorem lc_apart (h : LwS w S L) (hi : 0 ≤ i ∧ i + 6 ≤ L) (hL : L ≤ 3072) : CaseL w L 1018 i := by
  have e1 : w32 (i + 1) = i + 1 := w32_eq (by omega) (by omega)
  have a1 := h.2.2.ib hi (k := 1) (by omega)
  have e2 : w32 (i + 2) = i + 2 := w32_eq (by omega) (by omega)
  have a2 := h.2.2.ib hi (k := 2) (by omega)
  have k9 := h.1.k9
  have n3 := h.2.2.1.2.2
  obtain ⟨q, q', s, s', hc⟩ := h.1
  have hN : NowI w 32 q (sA S) := hc.1.1
  have hM : MoI w 91 (sA S) := h.2.1.2.1
  have x1 := p_apart (d := 48) hN (gv w 25 (i + 1)) (gv w 25 (i + 2))
  have x2 := q_apart (d := 47) hM (gv w 25 (i + 1)) (gv w 25 (i + 2))
  have m2 := Mf.svI w 91 0 0
  refine ⟨sv w 91 0 0, S, h.t0, by rw [m2.ucE]; omega, by rw [m2.usE]; omega, fun res r => Rn.cut ?_ r⟩
  rw [eL_law_1018, e1, e2, if_pos a1, if_pos a2, if_pos k9, x1]
  simp only [bI]
  rw [if_pos a1, if_pos a2, if_pos h.2.1.1.1.1, x2]
  simp only []
  rw [if_pos (by simp)]
theorem lc_differ (h : LwS w S L) (hi : 0 ≤ i ∧ i + 6 ≤ L) (hL : L ≤ 3072) : CaseL w L 1055 i := by
  have e1 : w32 (i + 1) = i + 1 := w32_eq (by omega) (by omega)
  have a1 := h.2.2.ib hi (k := 1) (by omega)
  have e2 : w32 (i + 2) = i + 2 := w32_eq (by omega) (by omega)
  have a2 := h.2.2.ib hi (k := 2) (by omega)
  have k9 := h.1.k9
  have n3 := h.2.2.1.2.2
  obtain ⟨q, q', s, s', hc⟩ := h.1
  have hN : NowI w 32 q (sA S) := hc.1.1
  have hM : MoI w 91 (sA S) := h.2.1.2.1
  have x1 := p_differ (d := 48) hN (gv w 25 (i + 1)) (gv w 25 (i + 2))
  have x2 := q_differ (d := 45) hM (gv w 25 (i + 1)) (gv w 25 (i + 2))
  have m2 := Mf.svI w 91 0 0
  refine ⟨sv w 91 0 0, S, h.t0, by rw [m2.ucE]; omega, by rw [m2.usE]; omega, fun res r => Rn.cut ?_ r⟩
  rw [eL_law_1055, e1, e2, if_pos a1, if_pos a2, if_pos k9, x1]
  simp only [bI]
  rw [if_pos a1, if_pos a2, if_pos h.2.1.1.1.1, x2]
  simp only []
  rw [if_pos (by simp)]
theorem lc_seek (h : LwS w S L) (hi : 0 ≤ i ∧ i + 6 ≤ L) (hL : L ≤ 3072) : CaseL w L 1092 i := by
  have e1 : w32 (i + 1) = i + 1 := w32_eq (by omega) (by omega)
  have a1 := h.2.2.ib hi (k := 1) (by omega)
  have k9 := h.1.k9
  have n3 := h.2.2.1.2.2
  obtain ⟨w1, x1, c1, m1, s1, t1, u1, v1⟩ := h.x (x_seek  h.1 (gv w 25 (i + 1)))
  obtain ⟨w2, x2, l2, u2, v2⟩ := LwS.y c1 s1 (y_seek  m1 (gv w 25 (i + 1)))
  refine ⟨w2, _, l2, by omega, by omega, fun res r => Rn.cut ?_ r⟩
  have k10 := m1.1.1.1
  have b1 := s1.ib hi (k := 1) (by omega)
  rw [eL_law_1092, e1, if_pos a1, if_pos k9, x1]
  simp only [bI]
  rw [if_pos b1, if_pos k10, t1 (i + 1), x2]
  simp only []
  rw [if_pos (by simp)]
theorem lc_seekAt (h : LwS w S L) (hi : 0 ≤ i ∧ i + 6 ≤ L) (hL : L ≤ 3072) : CaseL w L 1117 i := by
  have e1 : w32 (i + 1) = i + 1 := w32_eq (by omega) (by omega)
  have a1 := h.2.2.ib hi (k := 1) (by omega)
  have k9 := h.1.k9
  have n3 := h.2.2.1.2.2
  obtain ⟨q, q', s, s', hc⟩ := h.1
  have hN : NowI w 32 q (sA S) := hc.1.1
  have hM : MoI w 91 (sA S) := h.2.1.2.1
  have x1 := p_seekAt (d := 49) (F := sQ S) (k := sq S) k9 hc.2.2.2.2.2.2.2.2 (gv w 25 (i + 1))
  have x2 := q_seekAt (d := 48) (F := sQ S) (k := sq S) (m := 91) h.2.1.1.1.1 h.2.1.2.2.2.2.2.2.2.2.2.2.2 (gv w 25 (i + 1))
  have m2 := Mf.svI w 91 0 0
  refine ⟨sv w 91 0 0, S, h.t0, by rw [m2.ucE]; omega, by rw [m2.usE]; omega, fun res r => Rn.cut ?_ r⟩
  rw [eL_law_1117, e1, if_pos a1, if_pos k9, x1]
  simp only [bI]
  rw [if_pos a1, if_pos h.2.1.1.1.1, x2]
  simp only []
  rw [if_pos (by simp)]
theorem lc_put (h : LwS w S L) (hi : 0 ≤ i ∧ i + 6 ≤ L) (hL : L ≤ 3072) : CaseL w L 1142 i := by
  have e1 : w32 (i + 1) = i + 1 := w32_eq (by omega) (by omega)
  have a1 := h.2.2.ib hi (k := 1) (by omega)
  have e2 : w32 (i + 2) = i + 2 := w32_eq (by omega) (by omega)
  have a2 := h.2.2.ib hi (k := 2) (by omega)
  have e3 : w32 (i + 3) = i + 3 := w32_eq (by omega) (by omega)
  have a3 := h.2.2.ib hi (k := 3) (by omega)
  have k9 := h.1.k9
  have n3 := h.2.2.1.2.2
  obtain ⟨w1, x1, c1, m1, s1, t1, u1, v1⟩ := h.x (x_put (r := gv w 25 (i + 1)) (i := gv w 25 (i + 2)) (b := gv w 25 (i + 3)) h.1 (n3 (i + 2)))
  obtain ⟨w2, x2, l2, u2, v2⟩ := LwS.y c1 s1 (y_put (r := gv w 25 (i + 1)) (i := gv w 25 (i + 2)) (b := gv w 25 (i + 3)) m1 (n3 (i + 2)))
  refine ⟨w2, _, l2, by omega, by omega, fun res r => Rn.cut ?_ r⟩
  have k10 := m1.1.1.1
  have b1 := s1.ib hi (k := 1) (by omega)
  have b2 := s1.ib hi (k := 2) (by omega)
  have b3 := s1.ib hi (k := 3) (by omega)
  rw [eL_law_1142, e1, e2, e3, if_pos a1, if_pos a2, if_pos a3, if_pos k9, x1]
  simp only [bI]
  rw [if_pos b1, if_pos b2, if_pos b3, if_pos k10, t1 (i + 1), t1 (i + 2), t1 (i + 3), x2]
  simp only []
  rw [if_pos (by simp)]
theorem lc_set (h : LwS w S L) (hi : 0 ≤ i ∧ i + 6 ≤ L) (hL : L ≤ 3072) : CaseL w L 1191 i := by
  have e1 : w32 (i + 1) = i + 1 := w32_eq (by omega) (by omega)
  have a1 := h.2.2.ib hi (k := 1) (by omega)
  have e2 : w32 (i + 2) = i + 2 := w32_eq (by omega) (by omega)
  have a2 := h.2.2.ib hi (k := 2) (by omega)
  have e3 : w32 (i + 3) = i + 3 := w32_eq (by omega) (by omega)
  have a3 := h.2.2.ib hi (k := 3) (by omega)
  have k9 := h.1.k9
  have n3 := h.2.2.1.2.2
  obtain ⟨w1, x1, c1, m1, s1, t1, u1, v1⟩ := h.x (x_set (r := gv w 25 (i + 1)) (i := gv w 25 (i + 2)) (b := gv w 25 (i + 3)) h.1 (n3 (i + 2)))
  obtain ⟨w2, x2, l2, u2, v2⟩ := LwS.y c1 s1 (y_set (r := gv w 25 (i + 1)) (i := gv w 25 (i + 2)) (b := gv w 25 (i + 3)) m1 (n3 (i + 2)))
  refine ⟨w2, _, l2, by omega, by omega, fun res r => Rn.cut ?_ r⟩
  have k10 := m1.1.1.1
  have b1 := s1.ib hi (k := 1) (by omega)
  have b2 := s1.ib hi (k := 2) (by omega)
  have b3 := s1.ib hi (k := 3) (by omega)
  rw [eL_law_1191, e1, e2, e3, if_pos a1, if_pos a2, if_pos a3, if_pos k9, x1]
  simp only [bI]
  rw [if_pos b1, if_pos b2, if_pos b3, if_pos k10, t1 (i + 1), t1 (i + 2), t1 (i + 3), x2]
  simp only []
  rw [if_pos (by simp)]
theorem lc_cut (h : LwS w S L) (hi : 0 ≤ i ∧ i + 6 ≤ L) (hL : L ≤ 3072) : CaseL w L 1240 i := by
  have e1 : w32 (i + 1) = i + 1 := w32_eq (by omega) (by omega)
  have a1 := h.2.2.ib hi (k := 1) (by omega)
  have e2 : w32 (i + 2) = i + 2 := w32_eq (by omega) (by omega)
  have a2 := h.2.2.ib hi (k := 2) (by omega)
  have e3 : w32 (i + 3) = i + 3 := w32_eq (by omega) (by omega)
  have a3 := h.2.2.ib hi (k := 3) (by omega)
  have k9 := h.1.k9
  have n3 := h.2.2.1.2.2
  obtain ⟨w1, x1, c1, m1, s1, t1, u1, v1⟩ := h.x (x_cut (r := gv w 25 (i + 1)) (i := gv w 25 (i + 2)) (n := gv w 25 (i + 3)) h.1 (n3 (i + 2)))
  obtain ⟨w2, x2, l2, u2, v2⟩ := LwS.y c1 s1 (y_cut (r := gv w 25 (i + 1)) (i := gv w 25 (i + 2)) (n := gv w 25 (i + 3)) m1 (n3 (i + 2)))
  refine ⟨w2, _, l2, by omega, by omega, fun res r => Rn.cut ?_ r⟩
  have k10 := m1.1.1.1
  have b1 := s1.ib hi (k := 1) (by omega)
  have b2 := s1.ib hi (k := 2) (by omega)
  have b3 := s1.ib hi (k := 3) (by omega)
  rw [eL_law_1240, e1, e2, e3, if_pos a1, if_pos a2, if_pos a3, if_pos k9, x1]
  simp only [bI]
  rw [if_pos b1, if_pos b2, if_pos b3, if_pos k10, t1 (i + 1), t1 (i + 2), t1 (i + 3), x2]
  simp only []
  rw [if_pos (by simp)]
theorem lc_turn (h : LwS w S L) (hi : 0 ≤ i ∧ i + 6 ≤ L) (hL : L ≤ 3072) : CaseL w L 1289 i := by
  have e1 : w32 (i + 1) = i + 1 := w32_eq (by omega) (by omega)
  have a1 := h.2.2.ib hi (k := 1) (by omega)
  have e2 : w32 (i + 2) = i + 2 := w32_eq (by omega) (by omega)
  have a2 := h.2.2.ib hi (k := 2) (by omega)
  have e3 : w32 (i + 3) = i + 3 := w32_eq (by omega) (by omega)
  have a3 := h.2.2.ib hi (k := 3) (by omega)
  have k9 := h.1.k9
  have n3 := h.2.2.1.2.2
  obtain ⟨w1, x1, c1, m1, s1, t1, u1, v1⟩ := h.x (x_turn (r := gv w 25 (i + 1)) (i := gv w 25 (i + 2)) (n := gv w 25 (i + 3)) h.1 (n3 (i + 2)))
  obtain ⟨w2, x2, l2, u2, v2⟩ := LwS.y c1 s1 (y_turn (r := gv w 25 (i + 1)) (i := gv w 25 (i + 2)) (n := gv w 25 (i + 3)) m1 (n3 (i + 2)))
  refine ⟨w2, _, l2, by omega, by omega, fun res r => Rn.cut ?_ r⟩
  have k10 := m1.1.1.1
  have b1 := s1.ib hi (k := 1) (by omega)
  have b2 := s1.ib hi (k := 2) (by omega)
  have b3 := s1.ib hi (k := 3) (by omega)
  rw [eL_law_1289, e1, e2, e3, if_pos a1, if_pos a2, if_pos a3, if_pos k9, x1]
  simp only [bI]
  rw [if_pos b1, if_pos b2, if_pos b3, if_pos k10, t1 (i + 1), t1 (i + 2), t1 (i + 3), x2]
  simp only []
  rw [if_pos (by simp)]
theorem lc_paste (h : LwS w S L) (hi : 0 ≤ i ∧ i + 6 ≤ L) (hL : L ≤ 3072) : CaseL w L 1338 i := by
  have e1 : w32 (i + 1) = i + 1 := w32_eq (by omega) (by omega)
  have a1 := h.2.2.ib hi (k := 1) (by omega)
  have e2 : w32 (i + 2) = i + 2 := w32_eq (by omega) (by omega)
  have a2 := h.2.2.ib hi (k := 2) (by omega)
  have k9 := h.1.k9
  have n3 := h.2.2.1.2.2
  obtain ⟨w1, x1, c1, m1, s1, t1, u1, v1⟩ := h.x (x_paste  h.1 (gv w 25 (i + 1)) (gv w 25 (i + 2)))
  obtain ⟨w2, x2, l2, u2, v2⟩ := LwS.y c1 s1 (y_paste  m1 (gv w 25 (i + 1)) (gv w 25 (i + 2)))
  refine ⟨w2, _, l2, by omega, by omega, fun res r => Rn.cut ?_ r⟩
  have k10 := m1.1.1.1
  have b1 := s1.ib hi (k := 1) (by omega)
  have b2 := s1.ib hi (k := 2) (by omega)
  rw [eL_law_1338, e1, e2, if_pos a1, if_pos a2, if_pos k9, x1]
  simp only [bI]
  rw [if_pos b1, if_pos b2, if_pos k10, t1 (i + 1), t1 (i + 2), x2]
  simp only []
  rw [if_pos (by simp)]
theorem lc_join (h : LwS w S L) (hi : 0 ≤ i ∧ i + 6 ≤ L) (hL : L ≤ 3072) : CaseL w L 1375 i := by
  have e1 : w32 (i + 1) = i + 1 := w32_eq (by omega) (by omega)
  have a1 := h.2.2.ib hi (k := 1) (by omega)
  have e2 : w32 (i + 2) = i + 2 := w32_eq (by omega) (by omega)
  have a2 := h.2.2.ib hi (k := 2) (by omega)
  have k9 := h.1.k9
  have n3 := h.2.2.1.2.2
  obtain ⟨w1, x1, c1, m1, s1, t1, u1, v1⟩ := h.x (x_join (r := gv w 25 (i + 1)) (u := gv w 25 (i + 2)) h.1 (n3 (i + 2)))
  obtain ⟨w2, x2, l2, u2, v2⟩ := LwS.y c1 s1 (y_join  m1 (gv w 25 (i + 1)) (gv w 25 (i + 2)))
  refine ⟨w2, _, l2, by omega, by omega, fun res r => Rn.cut ?_ r⟩
  have k10 := m1.1.1.1
  have b1 := s1.ib hi (k := 1) (by omega)
  have b2 := s1.ib hi (k := 2) (by omega)
  rw [eL_law_1375, e1, e2, if_pos a1, if_pos a2, if_pos k9, x1]
  simp only [bI]
  rw [if_pos b1, if_pos b2, if_pos k10, t1 (i + 1), t1 (i + 2), x2]
  simp only []
  rw [if_pos (by simp)]
theorem lc_split (h : LwS w S L) (hi : 0 ≤ i ∧ i + 6 ≤ L) (hL : L ≤ 3072) : CaseL w L 1412 i := by
  have e1 : w32 (i + 1) = i + 1 := w32_eq (by omega) (by omega)
  have a1 := h.2.2.ib hi (k := 1) (by omega)
  have e2 : w32 (i + 2) = i + 2 := w32_eq (by omega) (by omega)
  have a2 := h.2.2.ib hi (k := 2) (by omega)
  have e3 : w32 (i + 3) = i + 3 := w32_eq (by omega) (by omega)
  have a3 := h.2.2.ib hi (k := 3) (by omega)
  have k9 := h.1.k9
  have n3 := h.2.2.1.2.2
  obtain ⟨w1, x1, c1, m1, s1, t1, u1, v1⟩ := h.x (x_split (r := gv w 25 (i + 1)) (i := gv w 25 (i + 2)) (u := gv w 25 (i + 3)) h.1 (n3 (i + 2)) (n3 (i + 3)))
  obtain ⟨w2, x2, l2, u2, v2⟩ := LwS.y c1 s1 (y_split (r := gv w 25 (i + 1)) (i := gv w 25 (i + 2)) (u := gv w 25 (i + 3)) m1 (n3 (i + 2)))
  refine ⟨w2, _, l2, by omega, by omega, fun res r => Rn.cut ?_ r⟩
  have k10 := m1.1.1.1
  have b1 := s1.ib hi (k := 1) (by omega)
  have b2 := s1.ib hi (k := 2) (by omega)
  have b3 := s1.ib hi (k := 3) (by omega)
  rw [eL_law_1412, e1, e2, e3, if_pos a1, if_pos a2, if_pos a3, if_pos k9, x1]
  simp only [bI]
  rw [if_pos b1, if_pos b2, if_pos b3, if_pos k10, t1 (i + 1), t1 (i + 2), t1 (i + 3), x2]
  simp only []
  rw [if_pos (by simp)]
theorem lc_letters (h : LwS w S L) (hi : 0 ≤ i ∧ i + 6 ≤ L) (hL : L ≤ 3072) : CaseL w L 1461 i := by
  have k9 := h.1.k9
  have n3 := h.2.2.1.2.2
  obtain ⟨q, q', s, s', hc⟩ := h.1
  have hN : NowI w 32 q (sA S) := hc.1.1
  have hM : MoI w 91 (sA S) := h.2.1.2.1
  have x1 := p_letters (d := 49) hN 
  have x2 := q_letters (d := 49) hM 
  have m2 := Mf.svI w 91 0 0
  refine ⟨sv w 91 0 0, S, h.t0, by rw [m2.ucE]; omega, by rw [m2.usE]; omega, fun res r => Rn.cut ?_ r⟩
  rw [eL_law_1461, if_pos k9, x1]
  simp only [bI]
  rw [if_pos h.2.1.1.1.1, x2]
  simp only []
  rw [if_pos (by simp)]
theorem lc_letter (h : LwS w S L) (hi : 0 ≤ i ∧ i + 6 ≤ L) (hL : L ≤ 3072) : CaseL w L 1474 i := by
  have e1 : w32 (i + 1) = i + 1 := w32_eq (by omega) (by omega)
  have a1 := h.2.2.ib hi (k := 1) (by omega)
  have k9 := h.1.k9
  have n3 := h.2.2.1.2.2
  obtain ⟨q, q', s, s', hc⟩ := h.1
  have hN : NowI w 32 q (sA S) := hc.1.1
  have hM : MoI w 91 (sA S) := h.2.1.2.1
  have x1 := p_letter (d := 48) hN (gv w 25 (i + 1))
  have x2 := q_letter (d := 47) hM (gv w 25 (i + 1))
  have m2 := Mf.svI w 91 0 0
  refine ⟨sv w 91 0 0, S, h.t0, by rw [m2.ucE]; omega, by rw [m2.usE]; omega, fun res r => Rn.cut ?_ r⟩
  rw [eL_law_1474, e1, if_pos a1, if_pos k9, x1]
  simp only [bI]
  rw [if_pos a1, if_pos h.2.1.1.1.1, x2]
  simp only []
  rw [if_pos (by simp)]
theorem lc_count (h : LwS w S L) (hi : 0 ≤ i ∧ i + 6 ≤ L) (hL : L ≤ 3072) : CaseL w L 1499 i := by
  have e1 : w32 (i + 1) = i + 1 := w32_eq (by omega) (by omega)
  have a1 := h.2.2.ib hi (k := 1) (by omega)
  have e2 : w32 (i + 2) = i + 2 := w32_eq (by omega) (by omega)
  have a2 := h.2.2.ib hi (k := 2) (by omega)
  have k9 := h.1.k9
  have n3 := h.2.2.1.2.2
  obtain ⟨q, q', s, s', hc⟩ := h.1
  have hN : NowI w 32 q (sA S) := hc.1.1
  have hM : MoI w 91 (sA S) := h.2.1.2.1
  have x1 := p_count (d := 48) hN (gv w 25 (i + 1)) (gv w 25 (i + 2))
  have x2 := q_count (d := 48) hM (gv w 25 (i + 1)) (gv w 25 (i + 2))
  have m2 := Mf.svI w 91 0 0
  refine ⟨sv w 91 0 0, S, h.t0, by rw [m2.ucE]; omega, by rw [m2.usE]; omega, fun res r => Rn.cut ?_ r⟩
  rw [eL_law_1499, e1, e2, if_pos a1, if_pos a2, if_pos k9, x1]
  simp only [bI]
  rw [if_pos a1, if_pos a2, if_pos h.2.1.1.1.1, x2]
  simp only []
  rw [if_pos (by simp)]
theorem lc_place (h : LwS w S L) (hi : 0 ≤ i ∧ i + 6 ≤ L) (hL : L ≤ 3072) : CaseL w L 1536 i := by
  have e1 : w32 (i + 1) = i + 1 := w32_eq (by omega) (by omega)
  have a1 := h.2.2.ib hi (k := 1) (by omega)
  have e2 : w32 (i + 2) = i + 2 := w32_eq (by omega) (by omega)
  have a2 := h.2.2.ib hi (k := 2) (by omega)
  have k9 := h.1.k9
  have n3 := h.2.2.1.2.2
  obtain ⟨q, q', s, s', hc⟩ := h.1
  have hN : NowI w 32 q (sA S) := hc.1.1
  have hM : MoI w 91 (sA S) := h.2.1.2.1
  have x1 := p_place (d := 48) hN (gv w 25 (i + 1)) (gv w 25 (i + 2))
  have x2 := q_place (d := 48) hM (gv w 25 (i + 1)) (gv w 25 (i + 2))
  have m2 := Mf.svI w 91 0 0
  refine ⟨sv w 91 0 0, S, h.t0, by rw [m2.ucE]; omega, by rw [m2.usE]; omega, fun res r => Rn.cut ?_ r⟩
  rw [eL_law_1536, e1, e2, if_pos a1, if_pos a2, if_pos k9, x1]
  simp only [bI]
  rw [if_pos a1, if_pos a2, if_pos h.2.1.1.1.1, x2]
  simp only []
  rw [if_pos (by simp)]
theorem lc_least (h : LwS w S L) (hi : 0 ≤ i ∧ i + 6 ≤ L) (hL : L ≤ 3072) : CaseL w L 1573 i := by
  have e1 : w32 (i + 1) = i + 1 := w32_eq (by omega) (by omega)
  have a1 := h.2.2.ib hi (k := 1) (by omega)
  have e2 : w32 (i + 2) = i + 2 := w32_eq (by omega) (by omega)
  have a2 := h.2.2.ib hi (k := 2) (by omega)
  have e3 : w32 (i + 3) = i + 3 := w32_eq (by omega) (by omega)
  have a3 := h.2.2.ib hi (k := 3) (by omega)
  have k9 := h.1.k9
  have n3 := h.2.2.1.2.2
  obtain ⟨q, q', s, s', hc⟩ := h.1
  have hN : NowI w 32 q (sA S) := hc.1.1
  have hM : MoI w 91 (sA S) := h.2.1.2.1
  have x1 := p_least (d := 47) hN (gv w 25 (i + 1)) (gv w 25 (i + 2)) (gv w 25 (i + 3))
  have x2 := q_least (d := 49) hM (gv w 25 (i + 1)) (gv w 25 (i + 2)) (gv w 25 (i + 3))
  have m2 := Mf.svI w 91 0 0
  refine ⟨sv w 91 0 0, S, h.t0, by rw [m2.ucE]; omega, by rw [m2.usE]; omega, fun res r => Rn.cut ?_ r⟩
  rw [eL_law_1573, e1, e2, e3, if_pos a1, if_pos a2, if_pos a3, if_pos k9, x1]
  simp only [bI]
  rw [if_pos a1, if_pos a2, if_pos a3, if_pos h.2.1.1.1.1, x2]
  simp only []
  rw [if_pos (by simp)]
theorem lc_node (h : LwS w S L) (hi : 0 ≤ i ∧ i + 6 ≤ L) (hL : L ≤ 3072) : CaseL w L 1622 i := by
  have e1 : w32 (i + 1) = i + 1 := w32_eq (by omega) (by omega)
  have a1 := h.2.2.ib hi (k := 1) (by omega)
  have e2 : w32 (i + 2) = i + 2 := w32_eq (by omega) (by omega)
  have a2 := h.2.2.ib hi (k := 2) (by omega)
  have k9 := h.1.k9
  have n3 := h.2.2.1.2.2
  obtain ⟨q, q', s, s', hc⟩ := h.1
  have hN : NowI w 32 q (sA S) := hc.1.1
  have hM : MoI w 91 (sA S) := h.2.1.2.1
  have x1 := p_node (d := 48) hN (gv w 25 (i + 1)) (gv w 25 (i + 2))
  have x2 := q_node (d := 48) hM (gv w 25 (i + 1)) (gv w 25 (i + 2))
  have m2 := Mf.svI w 91 0 0
  refine ⟨sv w 91 0 0, S, h.t0, by rw [m2.ucE]; omega, by rw [m2.usE]; omega, fun res r => Rn.cut ?_ r⟩
  rw [eL_law_1622, e1, e2, if_pos a1, if_pos a2, if_pos k9, x1]
  simp only [bI]
  rw [if_pos a1, if_pos a2, if_pos h.2.1.1.1.1, x2]
  simp only []
  rw [if_pos (by simp)]
theorem lc_type (h : LwS w S L) (hi : 0 ≤ i ∧ i + 6 ≤ L) (hL : L ≤ 3072) : CaseL w L 1659 i := by
  have e1 : w32 (i + 1) = i + 1 := w32_eq (by omega) (by omega)
  have a1 := h.2.2.ib hi (k := 1) (by omega)
  have e2 : w32 (i + 2) = i + 2 := w32_eq (by omega) (by omega)
  have a2 := h.2.2.ib hi (k := 2) (by omega)
  have k9 := h.1.k9
  have n3 := h.2.2.1.2.2
  obtain ⟨w1, x1, c1, m1, s1, t1, u1, v1⟩ := h.x (x_type (i := gv w 25 (i + 1)) (c := gv w 25 (i + 2)) h.1 (n3 (i + 1)))
  obtain ⟨w2, x2, l2, u2, v2⟩ := LwS.y c1 s1 (y_type (i := gv w 25 (i + 1)) (c := gv w 25 (i + 2)) m1 (n3 (i + 1)))
  refine ⟨w2, _, l2, by omega, by omega, fun res r => Rn.cut ?_ r⟩
  have k10 := m1.1.1.1
  have b1 := s1.ib hi (k := 1) (by omega)
  have b2 := s1.ib hi (k := 2) (by omega)
  rw [eL_law_1659, e1, e2, if_pos a1, if_pos a2, if_pos k9, x1]
  simp only [bI]
  rw [if_pos b1, if_pos b2, if_pos k10, t1 (i + 1), t1 (i + 2), x2]
  simp only []
  rw [if_pos (by simp)]
theorem lc_erase (h : LwS w S L) (hi : 0 ≤ i ∧ i + 6 ≤ L) (hL : L ≤ 3072) : CaseL w L 1696 i := by
  have e1 : w32 (i + 1) = i + 1 := w32_eq (by omega) (by omega)
  have a1 := h.2.2.ib hi (k := 1) (by omega)
  have e2 : w32 (i + 2) = i + 2 := w32_eq (by omega) (by omega)
  have a2 := h.2.2.ib hi (k := 2) (by omega)
  have k9 := h.1.k9
  have n3 := h.2.2.1.2.2
  obtain ⟨w1, x1, c1, m1, s1, t1, u1, v1⟩ := h.x (x_erase (i := gv w 25 (i + 1)) (n := gv w 25 (i + 2)) h.1 (n3 (i + 1)))
  obtain ⟨w2, x2, l2, u2, v2⟩ := LwS.y c1 s1 (y_erase (i := gv w 25 (i + 1)) (n := gv w 25 (i + 2)) m1 (n3 (i + 1)))
  refine ⟨w2, _, l2, by omega, by omega, fun res r => Rn.cut ?_ r⟩
  have k10 := m1.1.1.1
  have b1 := s1.ib hi (k := 1) (by omega)
  have b2 := s1.ib hi (k := 2) (by omega)
  rw [eL_law_1696, e1, e2, if_pos a1, if_pos a2, if_pos k9, x1]
  simp only [bI]
  rw [if_pos b1, if_pos b2, if_pos k10, t1 (i + 1), t1 (i + 2), x2]
  simp only []
  rw [if_pos (by simp)]
theorem lc_undo (h : LwS w S L) (hi : 0 ≤ i ∧ i + 6 ≤ L) (hL : L ≤ 3072) : CaseL w L 1733 i := by
  have k9 := h.1.k9
  have n3 := h.2.2.1.2.2
  obtain ⟨w1, x1, c1, m1, s1, t1, u1, v1⟩ := h.x (x_undo  h.1 h.2.1.2.2.2.2.1)
  obtain ⟨w2, x2, l2, u2, v2⟩ := LwS.y c1 s1 (y_undo  m1 )
  refine ⟨w2, _, l2, by omega, by omega, fun res r => Rn.cut ?_ r⟩
  have k10 := m1.1.1.1
  rw [eL_law_1733, if_pos k9, x1]
  simp only [bI]
  rw [if_pos k10, x2]
  simp only []
  rw [if_pos (by simp)]
theorem lc_drawn (h : LwS w S L) (hi : 0 ≤ i ∧ i + 6 ≤ L) (hL : L ≤ 3072) : CaseL w L 1746 i := by
  have e1 : w32 (i + 1) = i + 1 := w32_eq (by omega) (by omega)
  have a1 := h.2.2.ib hi (k := 1) (by omega)
  have e2 : w32 (i + 2) = i + 2 := w32_eq (by omega) (by omega)
  have a2 := h.2.2.ib hi (k := 2) (by omega)
  have k9 := h.1.k9
  have n3 := h.2.2.1.2.2
  obtain ⟨w1, x1, c1, m1, s1, t1, u1, v1⟩ := h.x (x_drawn  h.1 (gv w 25 (i + 1)) (gv w 25 (i + 2)))
  obtain ⟨w2, x2, l2, u2, v2⟩ := LwS.y c1 s1 (y_drawn  m1 (gv w 25 (i + 1)) (gv w 25 (i + 2)))
  refine ⟨w2, _, l2, by omega, by omega, fun res r => Rn.cut ?_ r⟩
  have k10 := m1.1.1.1
  have b1 := s1.ib hi (k := 1) (by omega)
  have b2 := s1.ib hi (k := 2) (by omega)
  rw [eL_law_1746, e1, e2, if_pos a1, if_pos a2, if_pos k9, x1]
  simp only [bI]
  rw [if_pos b1, if_pos b2, if_pos k10, t1 (i + 1), t1 (i + 2), x2]
  simp only []
  rw [if_pos (by simp)]
theorem lc_book (h : LwS w S L) (hi : 0 ≤ i ∧ i + 6 ≤ L) (hL : L ≤ 3072) : CaseL w L 1783 i := by
  have e1 : w32 (i + 1) = i + 1 := w32_eq (by omega) (by omega)
  have a1 := h.2.2.ib hi (k := 1) (by omega)
  have k9 := h.1.k9
  have n3 := h.2.2.1.2.2
  obtain ⟨w1, x1, c1, m1, s1, t1, u1, v1⟩ := h.x (x_book  h.1 (gv w 25 (i + 1)))
  obtain ⟨w2, x2, l2, u2, v2⟩ := LwS.y c1 s1 (y_book  m1 (gv w 25 (i + 1)))
  refine ⟨w2, _, l2, by omega, by omega, fun res r => Rn.cut ?_ r⟩
  have k10 := m1.1.1.1
  have b1 := s1.ib hi (k := 1) (by omega)
  rw [eL_law_1783, e1, if_pos a1, if_pos k9, x1]
  simp only [bI]
  rw [if_pos b1, if_pos k10, t1 (i + 1), x2]
  simp only []
  rw [if_pos (by simp)]
theorem lc_told (h : LwS w S L) (hi : 0 ≤ i ∧ i + 6 ≤ L) (hL : L ≤ 3072) : CaseL w L 1808 i := by
  have e1 : w32 (i + 1) = i + 1 := w32_eq (by omega) (by omega)
  have a1 := h.2.2.ib hi (k := 1) (by omega)
  have k9 := h.1.k9
  have n3 := h.2.2.1.2.2
  obtain ⟨q, q', s, s', hc⟩ := h.1
  have hN : NowI w 32 q (sA S) := hc.1.1
  have hM : MoI w 91 (sA S) := h.2.1.2.1
  have x1 := p_told (d := 49) (T := sT S) k9 hc.2.2.2.2.1 (gv w 25 (i + 1))
  have x2 := q_told (d := 48) (T := sT S) h.2.1.1 h.2.1.2.2.2.2.2.2.1 (gv w 25 (i + 1))
  have m2 := Mf.svI w 91 0 0
  refine ⟨sv w 91 0 0, S, h.t0, by rw [m2.ucE]; omega, by rw [m2.usE]; omega, fun res r => Rn.cut ?_ r⟩
  rw [eL_law_1808, e1, if_pos a1, if_pos k9, x1]
  simp only [bI]
  rw [if_pos a1, if_pos h.2.1.1.1.1, x2]
  simp only []
  rw [if_pos (by simp)]
theorem lc_sentence (h : LwS w S L) (hi : 0 ≤ i ∧ i + 6 ≤ L) (hL : L ≤ 3072) : CaseL w L 1833 i := by
  have k9 := h.1.k9
  have n3 := h.2.2.1.2.2
  obtain ⟨w1, x1, c1, m1, s1, t1, u1, v1⟩ := h.x (x_sentence  h.1 )
  obtain ⟨w2, x2, l2, u2, v2⟩ := LwS.y c1 s1 (y_sentence  m1 )
  refine ⟨w2, _, l2, by omega, by omega, fun res r => Rn.cut ?_ r⟩
  have k10 := m1.1.1.1
  rw [eL_law_1833, if_pos k9, x1]
  simp only [bI]
  rw [if_pos k10, x2]
  simp only []
  rw [if_pos (by simp)]
theorem lc_said (h : LwS w S L) (hi : 0 ≤ i ∧ i + 6 ≤ L) (hL : L ≤ 3072) : CaseL w L 1846 i := by
  have e1 : w32 (i + 1) = i + 1 := w32_eq (by omega) (by omega)
  have a1 := h.2.2.ib hi (k := 1) (by omega)
  have k9 := h.1.k9
  have n3 := h.2.2.1.2.2
  obtain ⟨w1, x1, c1, m1, s1, t1, u1, v1⟩ := h.x (x_said  h.1 (gv w 25 (i + 1)))
  obtain ⟨w2, x2, l2, u2, v2⟩ := LwS.y c1 s1 (y_said  m1 (gv w 25 (i + 1)))
  refine ⟨w2, _, l2, by omega, by omega, fun res r => Rn.cut ?_ r⟩
  have k10 := m1.1.1.1
  have b1 := s1.ib hi (k := 1) (by omega)
  rw [eL_law_1846, e1, if_pos a1, if_pos k9, x1]
  simp only [bI]
  rw [if_pos b1, if_pos k10, t1 (i + 1), x2]
  simp only []
  rw [if_pos (by simp)]
theorem lc_image (h : LwS w S L) (hi : 0 ≤ i ∧ i + 6 ≤ L) (hL : L ≤ 3072) : CaseL w L 1871 i := by
  have e1 : w32 (i + 1) = i + 1 := w32_eq (by omega) (by omega)
  have a1 := h.2.2.ib hi (k := 1) (by omega)
  have k9 := h.1.k9
  have n3 := h.2.2.1.2.2
  obtain ⟨w1, x1, c1, m1, s1, t1, u1, v1⟩ := h.x (x_image  h.1 (gv w 25 (i + 1)))
  obtain ⟨w2, x2, l2, u2, v2⟩ := LwS.y c1 s1 (y_image  m1 (gv w 25 (i + 1)))
  refine ⟨w2, _, l2, by omega, by omega, fun res r => Rn.cut ?_ r⟩
  have k10 := m1.1.1.1
  have b1 := s1.ib hi (k := 1) (by omega)
  rw [eL_law_1871, e1, if_pos a1, if_pos k9, x1]
  simp only [bI]
  rw [if_pos b1, if_pos k10, t1 (i + 1), x2]
  simp only []
  rw [if_pos (by simp)]
theorem lc_restore (h : LwS w S L) (hi : 0 ≤ i ∧ i + 6 ≤ L) (hL : L ≤ 3072) : CaseL w L 1896 i := by
  have e1 : w32 (i + 1) = i + 1 := w32_eq (by omega) (by omega)
  have a1 := h.2.2.ib hi (k := 1) (by omega)
  have k9 := h.1.k9
  have n3 := h.2.2.1.2.2
  obtain ⟨w1, x1, c1, m1, s1, t1, u1, v1⟩ := h.x (x_restore  h.1 (gv w 25 (i + 1)))
  obtain ⟨w2, x2, l2, u2, v2⟩ := LwS.y c1 s1 (y_restore  m1 (gv w 25 (i + 1)))
  refine ⟨w2, _, l2, by omega, by omega, fun res r => Rn.cut ?_ r⟩
  have k10 := m1.1.1.1
  have b1 := s1.ib hi (k := 1) (by omega)
  rw [eL_law_1896, e1, if_pos a1, if_pos k9, x1]
  simp only [bI]
  rw [if_pos b1, if_pos k10, t1 (i + 1), x2]
  simp only []
  rw [if_pos (by simp)]
theorem lc_total (h : LwS w S L) (hi : 0 ≤ i ∧ i + 6 ≤ L) (hL : L ≤ 3072) : CaseL w L 1921 i := by
  have e1 : w32 (i + 1) = i + 1 := w32_eq (by omega) (by omega)
  have a1 := h.2.2.ib hi (k := 1) (by omega)
  have k9 := h.1.k9
  have n3 := h.2.2.1.2.2
  obtain ⟨q, q', s, s', hc⟩ := h.1
  have hN : NowI w 32 q (sA S) := hc.1.1
  have hM : MoI w 91 (sA S) := h.2.1.2.1
  have x1 := p_total (d := 48) hN (gv w 25 (i + 1))
  have x2 := q_total (d := 47) hM (gv w 25 (i + 1))
  have z1 : gv w 32 1 = sn S := hc.2.2.1.2.1
  have z2 : gv w 91 2 = sn S := h.2.1.2.2.2.2.2.1.2.1
  rw [z1] at x1
  rw [z2] at x2
  have m2 := Mf.svI w 91 0 0
  refine ⟨sv w 91 0 0, S, h.t0, by rw [m2.ucE]; omega, by rw [m2.usE]; omega, fun res r => Rn.cut ?_ r⟩
  rw [eL_law_1921, e1, if_pos a1, if_pos k9, x1]
  simp only [bI]
  rw [if_pos a1, if_pos h.2.1.1.1.1, x2]
  simp only []
  rw [if_pos (by simp)]
end LC
