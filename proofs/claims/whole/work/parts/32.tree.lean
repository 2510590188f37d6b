/-! ===== trees of the class ===== -/
section TR
variable {d : Nat} {w : sW} {a n k : Int} {b l : Int → Int}
def triN : Nat → Int → Int
  | 0, k => if k = 3 then 1 else 0
  | f + 1, k => if 3 < k then triN f (k - k / 2) + triN f (k / 2) else if k = 3 then 1 else 0
theorem triN_le : ∀ (f : Nat) (k : Int), 0 ≤ k → 0 ≤ triN f k ∧ triN f k ≤ k
  | 0, k, h => by simp only [triN]; grind
  | f + 1, k, h => by
    have h1 := triN_le f (k - k / 2) (by omega)
    have h2 := triN_le f (k / 2) (by omega)
    simp only [triN]
    grind
theorem t_triples : ∀ (f : Nat) (k p : Int), 0 ≤ k → k ≤ 3 * 2 ^ f → k ≤ 600 → 0 ≤ p → p + f ≤ 20 → Ex pro (d + f + 1) 92 w [iV k, iV p] = some (some (iV (triN f k)), w)
  | 0, k, p, h0, h1, h2, hp, hf => by
    refine xX9_triples (Rn.ret ?_)
    rw [eX9_triples_0]
    simp only [triN]
    grind
  | f + 1, k, p, h0, h1, h2, hp, hf => by
    have hpw : (2 : Int) ^ (f + 1) = 2 * 2 ^ f := by rw [Int.pow_succ]; omega
    rw [hpw] at h1
    have e1 := t_triples f (k - k / 2) (p + 1) (by omega) (by omega) (by omega) (by omega) (by omega)
    have e2 := t_triples f (k / 2) (p + 1) (by omega) (by omega) (by omega) (by omega) (by omega)
    have b1 := triN_le f (k - k / 2) (by omega)
    have b2 := triN_le f (k / 2) (by omega)
    refine xX9_triples (d := d + (f + 1)) (Rn.ret ?_)
    rw [eX9_triples_0]
    by_cases c : 3 < k
    · rw [if_pos c, if_neg (by omega), if_neg (by omega), Int.tdiv_eq_ediv_of_nonneg h0, w32_eq (x := k / 2) (by omega) (by omega), w32_eq (x := k - k / 2) (by omega) (by omega), w32_eq (x := p + 1) (by omega) (by omega)]
      rw [show d + (f + 1) = d + f + 1 from rfl, e1]
      simp only [bI]
      rw [e2]
      simp only []
      rw [w32_eq (by omega) (by omega)]
      simp only [triN]
      rw [if_pos c]
    · simp only [triN]
      grind
theorem t_mixed (h : 0 ≤ k ∧ k ≤ 192) : Ex pro (d + 8) 91 w [iV k] = some (some (iV (triN 6 k)), w) := by
  have e := t_triples (d := d) (w := w) 6 k 0 h.1 (by omega) (by omega) (by omega) (by omega)
  refine xX9_mixed (d := d + 7) (Rn.ret ?_)
  rw [eX9_mixed_0]
  rw [show d + 6 + 1 = d + 7 from rfl] at e
  rw [e]
  rfl
theorem t_inner (h : 0 ≤ k ∧ k ≤ 1000) : Ex pro (d + 1) 90 w [iV k] = some (some (iV (if 1 < k then k - 1 else 0)), w) := by
  refine xX9_inner (Rn.ret ?_)
  rw [eX9_inner_0]
  grind [w32_eq]
/-- halvings of k, at most f -/
def hgt : Nat → Int → Int
  | 0, _ => 0
  | f + 1, k => if 1 < k then 1 + hgt f (k - k / 2) else 0
theorem l_height {C : sC} : ∀ (f : Nat) (y k : Int), 0 ≤ k → k ≤ 2 ^ f → k ≤ 1000 → 0 ≤ y → y + f ≤ 100 → Rn C mX9_height (4, [none, some (iV y), some (iV k)], [], w) (some (iV (y + hgt f k)), w)
  | 0, y, k, h0, h1, h2, hy, hf => by
    refine Rn.ret ?_
    rw [eX9_height_4]
    simp only [hgt]
    grind
  | f + 1, y, k, h0, h1, h2, hy, hf => by
    have hpw : (2 : Int) ^ (f + 1) = 2 * 2 ^ f := by rw [Int.pow_succ]; omega
    rw [hpw] at h1
    by_cases c : 1 < k
    · have ih := l_height (C := C) f (y + 1) (k - k / 2) (by omega) (by omega) (by omega) (by omega) (by omega)
      rw [show y + hgt (f + 1) k = y + 1 + hgt f (k - k / 2) by simp only [hgt]; rw [if_pos c]; omega]
      refine Rn.cut ?_ ih
      rw [eX9_height_4, if_pos c, if_neg (by omega), Int.tdiv_eq_ediv_of_nonneg h0, w32_eq (x := k / 2) (by omega) (by omega), w32_eq (x := k - k / 2) (by omega) (by omega), w32_eq (x := y + 1) (by omega) (by omega)]
    · rw [show y + hgt (f + 1) k = y by simp only [hgt]; rw [if_neg c]; omega]
      refine Rn.ret ?_
      rw [eX9_height_4, if_neg c]
theorem t_height (h : 0 ≤ k ∧ k ≤ 256) : Ex pro (d + 1) 89 w [iV k] = some (some (iV (hgt 8 k)), w) := by
  have := l_height (C := Ex pro d) (w := w) 8 0 k h.1 (by omega) (by omega) (by omega) (by omega)
  rw [Int.zero_add] at this
  refine xX9_height (Rn.cut ?_ this)
  rw [eX9_height_0]
/-- the cost of f leaves from j on -/
def cst (l : Int → Int) (j : Int) : Nat → Int
  | 0 => 0
  | f + 1 => (l j + 31) / 32 + 4 + cst l (j + 1) f
theorem l_cost {C : sC} (h : RowAt w a n b k l) (hl : ∀ j, 0 ≤ j → j < k → 0 ≤ l j ∧ l j ≤ 1000) : ∀ (f : Nat) (y j : Int), j + f = k → 0 ≤ j → 0 ≤ y → y ≤ 1000 + 50 * j → Rn C mX9_cost (12, [some (rV a), some (iV y), some (iV j)], [], w) (some (iV (y + cst l j f)), w)
  | 0, y, j, hj, hj0, hy, hyj => by
    obtain ⟨⟨s1, s2, s3, s4, s5, s6, s7, s8⟩, h2, h3, h4, h5, h6, h7⟩ := h
    refine Rn.ret ?_
    rw [eX9_cost_12]
    grind [cst]
  | f + 1, y, j, hj, hj0, hy, hyj => by
    have hlj := hl j hj0 (by omega)
    have ih := l_cost (C := C) h hl f (y + ((l j + 31) / 32 + 4)) (j + 1) (by omega) (by omega) (by omega) (by omega)
    rw [show y + ((l j + 31) / 32 + 4) + cst l (j + 1) f = y + cst l j (f + 1) by simp only [cst]; omega] at ih
    obtain ⟨⟨s1, s2, s3, s4, s5, s6, s7, s8⟩, h2, h3, h4, h5, h6, h7⟩ := h
    have e := h7 j hj0 (by omega)
    refine Rn.cut ?_ ih
    rw [eX9_cost_12, s3, e, w32_eq (x := l j + 31) (by omega) (by omega), Int.tdiv_eq_ediv_of_nonneg (by omega), w32_eq (x := (l j + 31) / 32) (by omega) (by omega), w32_eq (x := (l j + 31) / 32 + 4) (by omega) (by omega), w32_eq (x := y + ((l j + 31) / 32 + 4)) (by omega) (by omega), w32_eq (x := j + 1) (by omega) (by omega)]
    grind
def cosF (l : Int → Int) (k : Int) : Int := 5 * (if 1 < k then k - 1 else 0) + cst l 0 k.toNat
theorem t_cost (h : RowAt w a n b k l) (hl : ∀ j, 0 ≤ j → j < k → 0 ≤ l j ∧ l j ≤ 1000) : Ex pro (d + 2) 93 w [rV a] = some (some (iV (cosF l k)), w) := by
  have hk := h.2.2.2.2.1
  have := l_cost (C := Ex pro (d + 1)) h hl k.toNat (5 * (if 1 < k then k - 1 else 0)) 0 (by omega) (by omega) (by grind) (by grind)
  refine xX9_cost (Rn.cut ?_ this)
  have e := t_inner (d := d) (w := w) (k := k) (by omega)
  obtain ⟨⟨s1, s2, s3, s4, s5, s6, s7, s8⟩, h2, h3, h4, h5, h6, h7⟩ := h
  rw [eX9_cost_0, if_pos s1, h3, e]
  simp only [bI]
  rw [w32_eq (by grind) (by grind)]
theorem l_leafStart {C : sC} (h : RowAt w a n b k l) (hl : ∀ j, 0 ≤ j → j < k → 0 ≤ l j ∧ l j ≤ 1000) {q : Int} : ∀ (f : Nat) (y j : Int), (j + f = minI q k ∨ (f = 0 ∧ minI q k ≤ j)) → 0 ≤ j → 0 ≤ y → y ≤ 1000 * j → Rn C mX5_leafStart (4, [some (rV a), some (iV q), some (iV y), some (iV j)], [], w) (some (iV (y + psm l j f)), w)
  | 0, y, j, hj, hj0, hy, hyj => by
    obtain ⟨⟨s1, s2, s3, s4, s5, s6, s7, s8⟩, h2, h3, h4, h5, h6, h7⟩ := h
    refine Rn.ret ?_
    rw [eX5_leafStart_4]
    unfold minI at hj
    grind [psm]
  | f + 1, y, j, hj, hj0, hy, hyj => by
    have hjk : j < k ∧ j < q := by unfold minI at hj; grind
    have hlj := hl j hj0 (by omega)
    have ih := l_leafStart (C := C) h hl (q := q) f (y + l j) (j + 1) (by omega) (by omega) (by omega) (by omega)
    rw [show y + l j + psm l (j + 1) f = y + psm l j (f + 1) by simp only [psm]; omega] at ih
    obtain ⟨⟨s1, s2, s3, s4, s5, s6, s7, s8⟩, h2, h3, h4, h5, h6, h7⟩ := h
    refine Rn.cut ?_ ih
    rw [eX5_leafStart_4]
    grind [w32_eq]
theorem s_leafStart (h : RowAt w a n b k l) (hl : ∀ j, 0 ≤ j → j < k → 0 ≤ l j ∧ l j ≤ 1000) (q : Int) : Ex pro (d + 1) 46 w [rV a, iV q] = some (some (iV (psm l 0 (minI q k).toNat)), w) := by
  have := l_leafStart (C := Ex pro d) h hl (q := q) (minI q k).toNat 0 0 (by omega) (by omega) (by omega) (by omega)
  rw [Int.zero_add] at this
  refine xX5_leafStart (Rn.cut ?_ this)
  rw [eX5_leafStart_0]
end TR
