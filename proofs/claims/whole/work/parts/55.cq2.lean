/-! ===== the class's questions: letters, totals ===== -/
section CQ2
variable {d : Nat} {w : sW} {x q : Int} {A : Rm}
theorem NowI.sc (h : NowI w x q A) : gv w (gv w x 3) 2 = q + 3 := by rw [h.2.1]; exact h.2.2.1.1.2.2.2
theorem NowI.k6 (h : NowI w x q A) : kd w (q + 3) = 6 := h.2.2.2.2.2.2.2.2.1.1
theorem NowI.scI (h : NowI w x q A) : ScI w (q + 3) A.2.2.2.2 := h.2.2.2.2.2.2.2.2
theorem NowI.n2 (h : NowI w x q A) : 0 ≤ nT A ∧ nT A ≤ 200 := h.scI.2.2.1
theorem p_letters (h : NowI w x q A) : Ex pro (d + 1) 131 w [rV x] = some (some (iV (nT A)), w) := by
  refine xX11_letters (Rn.ret ?_)
  rw [eX11_letters_0, if_pos h.1, if_pos h.k8, h.sc, if_pos h.k6, h.scI.2.1]
theorem p_letter (h : NowI w x q A) (i : Int) : Ex pro (d + 2) 132 w [rV x, iV i] = some (some (iV (if 0 ≤ i ∧ i < nT A then tT A i else -1)), w) := by
  refine xX11_letter (Rn.ret ?_)
  rw [eX11_letter_0, if_pos h.1, if_pos h.k8, h.sc, if_pos h.k6, c_signAt h.scI]
  simp only [bI, ite10]
theorem p_isLetter (c : Int) : Ex pro (d + 1) 134 w [iV c] = some (some (iV (if 0 ≤ c ∧ c < 8 then 1 else 0)), w) := by
  refine xX11_isLetter (Rn.ret ?_)
  rw [eX11_isLetter_0]
  by_cases c1 : c < 0
  · rw [if_pos c1, if_neg (by omega)]
  · rw [if_neg c1]
    by_cases c2 : c < 8
    · rw [if_pos c2, if_pos (by omega)]
    · rw [if_neg c2, if_neg (by omega)]
theorem p_count (h : NowI w x q A) (c i : Int) : Ex pro (d + 2) 133 w [rV x, iV c, iV i] = some (some (iV (if (0 ≤ c ∧ c < 8) ∧ 0 ≤ i ∧ i ≤ nT A then cnt (tT A) c 0 i.toNat else -1)), w) := by
  refine xX11_count (Rn.ret ?_)
  rw [eX11_count_0, p_isLetter]
  simp only [bI, ite10]
  by_cases cc : 0 ≤ c ∧ c < 8
  · rw [if_pos cc, if_pos h.1, if_pos h.1, if_pos h.k8, if_pos h.k8, h.sc, if_pos h.k6, if_pos h.k6, h.scI.2.1]
    by_cases c1 : i < 0
    · rw [if_pos c1, if_neg (by omega)]
    · rw [if_neg c1]
      by_cases c2 : nT A < i
      · rw [if_pos c2, if_neg (by omega)]
      · rw [if_neg c2, c_countIn h.scI, ccn_in (by omega) (by show i ≤ nT A; omega), if_pos ⟨cc, by omega, by omega⟩, show (i - 0).toNat = i.toNat by omega]
  · rw [if_neg cc, if_neg (fun z => cc z.1)]
theorem p_place (h : NowI w x q A) (c k : Int) : Ex pro (d + 2) 135 w [rV x, iV c, iV k] = some (some (iV (if (0 ≤ c ∧ c < 8) ∧ 0 ≤ k then sel (tT A) c k 0 0 (nT A).toNat else -1)), w) := by
  refine xX11_place (Rn.ret ?_)
  rw [eX11_place_0, p_isLetter]
  simp only [bI, ite10]
  by_cases cc : 0 ≤ c ∧ c < 8
  · rw [if_pos cc, if_pos h.1, if_pos h.k8, h.sc, if_pos h.k6]
    by_cases c1 : k < 0
    · rw [if_pos c1, if_neg (by omega)]
    · rw [if_neg c1, c_placeOf h.scI, if_pos ⟨cc, by omega⟩]
  · rw [if_neg cc, if_neg (fun z => cc z.1)]
theorem p_least (h : NowI w x q A) (i j k : Int) : Ex pro (d + 3) 136 w [rV x, iV i, iV j, iV k] = some (some (iV (if 0 ≤ i ∧ i ≤ j ∧ j ≤ nT A ∧ 0 ≤ k then lst A.2.2.2.2 i j k 0 0 8 else -1)), w) := by
  refine xX11_least (Rn.ret ?_)
  rw [eX11_least_0, if_pos h.1, if_pos h.1, if_pos h.k8, if_pos h.k8, h.sc, if_pos h.k6, if_pos h.k6, h.scI.2.1, c_leastOf h.scI]
  simp only [bI, ite10]
  by_cases c1 : i < 0
  · rw [if_pos c1, if_neg (by omega)]
  · rw [if_neg c1]
    by_cases c2 : j < i
    · rw [if_pos c2, if_neg (by omega)]
    · rw [if_neg c2]
      by_cases c3 : nT A < j
      · rw [if_pos c3, if_neg (by omega)]
      · rw [if_neg c3]
        by_cases c4 : k < 0
        · rw [if_pos c4, if_neg (by omega)]
        · rw [if_neg c4, if_pos ⟨by omega, by omega, by omega, by omega⟩]
theorem p_node (h : NowI w x q A) (n i : Int) : Ex pro (d + 2) 137 w [rV x, iV n, iV i] = some (some (iV (if (0 ≤ n ∧ n ≤ 6) ∧ 0 ≤ i then nodF A.2.2.2.2 n i else -1)), w) := by
  refine xX11_node (Rn.ret ?_)
  rw [eX11_node_0, if_pos h.1, if_pos h.k8, h.sc, if_pos h.k6]
  by_cases c1 : n < 0
  · rw [if_pos c1, if_neg (by omega)]
  · rw [if_neg c1]
    by_cases c2 : n < 7
    · rw [if_pos c2]
      by_cases c3 : i < 0
      · rw [if_pos c3, if_neg (by omega)]
      · rw [if_neg c3, c_nodeBit h.scI (by omega), if_pos ⟨by omega, by omega⟩]
        simp only [bI, ite10]
    · rw [if_neg c2, if_neg (by omega)]
theorem p_total (h : NowI w x q A) (e : Int) : Ex pro (d + 2) 148 w [rV x, iV e] = some (some (iV (if e = 0 then A.1 else if e = 1 then A.2.1 else if e = 2 then abt A.2.2.2.1 0 A.1.toNat else if e = 3 then gv w x 1 else -1)), w) := by
  refine xX11_total (Rn.ret ?_)
  rw [eX11_total_0, if_pos h.1, if_pos h.1, if_pos h.1, if_pos h.1, if_pos h.k8, if_pos h.k8, if_pos h.k8, h.2.1, h.2.2.2.1.1, h.2.2.2.1.2, m_allBits h.2.2]
  simp only [bI, ite10]
  by_cases c0 : e = 0
  · rw [if_pos c0, if_pos c0]
  · rw [if_neg c0, if_neg c0]
    by_cases c1 : e = 1
    · rw [if_pos c1, if_pos c1]
    · rw [if_neg c1, if_neg c1]
      by_cases c2 : e = 2
      · rw [if_pos c2, if_pos c2]
      · rw [if_neg c2, if_neg c2]
        by_cases c3 : e = 3
        · rw [if_pos c3, if_pos c3]
        · rw [if_neg c3, if_neg c3]
end CQ2
