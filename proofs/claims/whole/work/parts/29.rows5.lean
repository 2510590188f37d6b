/-! ===== rows of the class: bits go ===== -/
def remL1 (l : Int → Int) (n k i : Int) : Int → Int := updI l (leafW l n k i) (l (leafW l n k i) - 1)
def remM (l : Int → Int) (n k i : Int) : Int := if k - 2 < leafW l n k i then k - 2 else leafW l n k i
def remK (l : Int → Int) (n k i low : Int) : Int := if l (leafW l n k i) - 1 < low ∧ 1 < k then halK (merL (remL1 l n k i) (remM l n k i)) (k - 1) (remM l n k i) low else k
def remL (l : Int → Int) (n k i low : Int) : Int → Int := if l (leafW l n k i) - 1 < low ∧ 1 < k then halL (merL (remL1 l n k i) (remM l n k i)) (k - 1) (remM l n k i) low else remL1 l n k i
/-- c bits go at i, one by one: leaves and sizes -/
def remI (i low : Int) : Nat → Int → Int × (Int → Int) → Int × (Int → Int)
  | 0, _, s => s
  | c + 1, n, s => remI i low c (n - 1) (remK s.2 n s.1 i low, remL s.2 n s.1 i low)
def remB (b : Int → Int) (i c : Int) : Int → Int := fun x => if x < i then b x else b (x + c)
/-- as LvOk, but one leaf may be empty -/
def LvMd (n k : Int) (l : Int → Int) (low : Int) : Prop := (4 ≤ low ∧ low ≤ 32) ∧ (0 ≤ n ∧ n ≤ 600) ∧ 1 ≤ k ∧ psm l 0 k.toNat = n ∧ ∀ j, 0 ≤ j → j < k → (0 ≤ l j ∧ l j ≤ 2 * low) ∧ (1 < k → low ≤ l j)
section RC5
variable {d : Nat} {w : sW} {a n k low : Int} {b l : Int → Int}
theorem LvMd.kb (h : LvMd n k l low) : k ≤ 150 := by
  obtain ⟨h1, h2, h3, h4, h5⟩ := h
  by_cases c : k ≤ 1
  · omega
  · have := psm_ge (l := l) (c := 4) k.toNat 0 (fun x y z => by have := h5 x y (by omega); omega)
    omega
theorem LvOk.md (h : LvOk n k l low) (hn : 1 ≤ n) : LvMd n k l low := by
  obtain ⟨h1, h2, h3, h4, h5⟩ := h
  refine ⟨h1, h2, ?_, h4, fun j x y => ?_⟩
  · rcases Int.lt_or_le 0 k with c | c
    · omega
    · have : k.toNat = 0 := by omega
      rw [this] at h4
      simp [psm] at h4
      omega
  · have := h5 j x y
    omega
theorem LvMd.ok (h : LvMd n k l low) (hn : 1 ≤ n) : LvOk n k l low := by
  obtain ⟨h1, h2, h3, h4, h5⟩ := h
  refine ⟨h1, h2, by omega, h4, fun j x y => ?_⟩
  have := h5 j x y
  by_cases c : 1 < k
  · omega
  · have hk : k = 1 := by omega
    have hj : j = 0 := by omega
    subst hk hj
    simp [psm] at h4
    omega
theorem LvOk.zero (h : 4 ≤ low ∧ low ≤ 32) : LvOk 0 0 l low := ⟨h, by omega, by omega, by simp [psm], fun j x y => by omega⟩
theorem LvMd.rem (h : LvMd n k l low) (hn : 1 ≤ n) (i : Int) : LvMd (n - 1) (remK l n k i low) (remL l n k i low) low := by
  have hk := h.kb
  have hko := (h.ok hn)
  obtain ⟨h1, h2, h3, h4, h5⟩ := h
  have hj := leafW_rg (l := l) (n := n) (k := k) h3 i
  have hm : remM l n k i = if k - 2 < leafW l n k i then k - 2 else leafW l n k i := rfl
  have hl1 : remL1 l n k i = updI l (leafW l n k i) (l (leafW l n k i) - 1) := rfl
  unfold remK remL
  generalize remM l n k i = m at *
  generalize remL1 l n k i = l1 at *
  generalize leafW l n k i = j at *
  have hlj := hko.2.2.2.2 j hj.1 hj.2
  have hs : psm l1 0 k.toNat = n - 1 := by rw [hl1, psm_upd l hj.1 hj.2]; omega
  have hlx : ∀ x, x ≠ j → l1 x = l x := fun x hx => by rw [hl1]; unfold updI; rw [if_neg hx]
  have hlj1 : l1 j = l j - 1 := by rw [hl1]; unfold updI; simp
  by_cases c : l j - 1 < low ∧ 1 < k
  · rw [if_pos c, if_pos c]
    have hm2 : 0 ≤ m ∧ m + 1 < k ∧ (m = j ∨ m + 1 = j) := by rw [hm]; split <;> omega
    have ho : ∀ x, 0 ≤ x → x < k → x ≠ j → (low ≤ l1 x ∧ l1 x ≤ 2 * low) := fun x x1 x2 x3 => by
      rw [hlx x x3]
      have := h5 x x1 x2
      omega
    have e0 : merL l1 m m = l1 m + l1 (m + 1) := by unfold merL; simp
    have hsum : 1 ≤ merL l1 m m ∧ merL l1 m m ≤ 3 * low ∧ low ≤ merL l1 m m := by
      rw [e0]
      rcases hm2.2.2 with z | z
      · rw [z, hlj1]
        have := ho (j + 1) (by omega) (by omega) (by omega)
        omega
      · have := ho m (by omega) (by omega) (by omega)
        rw [z, hlj1]
        omega
    have hbd := hal_bd (k := k - 1) (j := m) (low := low) (l := merL l1 m) h1 (by omega) (by omega) (fun x x1 x2 x3 => by
      unfold merL
      by_cases c1 : x < m
      · have := ho x x1 (by omega) (by omega)
        rw [if_pos c1]
        omega
      · have := ho (x + 1) (by omega) (by omega) (by omega)
        rw [if_neg c1, if_neg x3]
        omega) ⟨hsum.1, hsum.2.1, fun _ => hsum.2.2⟩
    have e1 := psm_hal (merL l1 m) (j := m) (k := k - 1) (low := low) (by omega) (by omega)
    have e2 := psm_mer l1 (j := m) (k := k) (by omega) (by omega)
    refine ⟨h1, by omega, ?_, by omega, fun x x1 x2 => ?_⟩
    · unfold halK
      split <;> omega
    · have := hbd x x1 x2
      omega
  · rw [if_neg c, if_neg c]
    refine ⟨h1, by omega, h3, hs, fun x x1 x2 => ?_⟩
    by_cases z : x = j
    · rw [z, hlj1]
      omega
    · rw [hlx x z]
      exact h5 x x1 x2
theorem LvMd.remI {i : Int} : ∀ (c : Nat) (n : Int) (k : Int) (l : Int → Int), LvMd n k l low → (c : Int) ≤ n → LvMd (n - c) (remI i low c n (k, l)).1 (remI i low c n (k, l)).2 low
  | 0, n, k, l, h, hc => by
    rw [show n - ((0 : Nat) : Int) = n by omega]
    exact h
  | c + 1, n, k, l, h, hc => by
    have := LvMd.remI (i := i) c (n - 1) _ _ (h.rem (by omega) i) (by omega)
    rw [show n - 1 - (c : Int) = n - ((c + 1 : Nat) : Int) by omega] at this
    exact this
theorem l_remove {i c : Int} : ∀ (f : Nat) (q : Int) (w : sW) (n k : Int) (l : Int → Int), q + f = c → 0 ≤ q → c ≤ 600 → (f : Int) ≤ n → RowA w a n b k l → (LvMd n k l low ∨ (f = 0 ∧ n = 0 ∧ k = 0)) → ∃ w', Rn (Ex pro (d + 2)) mX5_remove (36, [some (rV a), some (iV i), some (iV c), some (iV low), some (iV q), none], [], w) (none, w') ∧ Fr w w' a (a + 2) ∧ RowA w' a (n - f) b (if n - f = 0 then 0 else (remI i low f n (k, l)).1) (remI i low f n (k, l)).2
  | 0, q, w, n, k, l, hq, hq0, hc, hf, h, hl => by
    rw [show n - ((0 : Nat) : Int) = n by omega]
    show ∃ w', _ ∧ _ ∧ RowA w' a n b (if n = 0 then 0 else k) l
    obtain ⟨⟨s1, s2, s3, s4, s5, s6, s7, s8⟩, h2, h3, h6, h7⟩ := h
    by_cases c0 : n = 0
    · refine ⟨sv w a 3 0, Rn.ret ?_, Fr.svI (by omega) (by omega), ?_⟩
      · rw [eX5_remove_36]
        simp only [wl_eq]
        grind
      · rw [if_pos c0]
        unfold RowA RowSh
        simp only [kdS, kdC, lnS, lnC, gvS, gvC]
        grind
    · refine ⟨w, Rn.ret ?_, Fr.refl _ _ _, ?_⟩
      · rw [eX5_remove_36]
        grind
      · rw [if_neg c0]
        exact ⟨⟨s1, s2, s3, s4, s5, s6, s7, s8⟩, h2, h3, h6, h7⟩
  | f + 1, q, w, n, k, l, hq, hq0, hc, hf, h, hl => by
    have hl : LvMd n k l low := by
      rcases hl with z | z
      · exact z
      · omega
    have hk := hl.kb
    have hst := hl.rem (by omega) i
    have g : ∃ w1, sg (Ex pro (d + 2)) mX5_remove 2000 36 [some (rV a), some (iV i), some (iV c), some (iV low), some (iV q), none] [] w = some (.inl (36, [some (rV a), some (iV i), some (iV c), some (iV low), some (iV (q + 1)), none], [], w1)) ∧ Fr w w1 a (a + 2) ∧ RowA w1 a (n - 1) b (remK l n k i low) (remL l n k i low) := by
      obtain ⟨h1, hn, hk1, h4, h5⟩ := hl
      have hjb := leafW_rg (l := l) (n := n) (k := k) hk1 i
      have ej := s_leafWith (d := d + 1) h hn (by omega) (fun j x y => by have := h5 j x y; omega) i
      obtain ⟨⟨s1, s2, s3, s4, s5, s6, s7, s8⟩, h2, h3, h6, h7⟩ := h
      have hm : remM l n k i = if k - 2 < leafW l n k i then k - 2 else leafW l n k i := rfl
      have hl1 : remL1 l n k i = updI l (leafW l n k i) (l (leafW l n k i) - 1) := rfl
      unfold remK remL
      generalize remM l n k i = m at *
      generalize remL1 l n k i = l1 at *
      generalize leafW l n k i = j at *
      have e := h7 j hjb.1 hjb.2
      have hlj := h5 j hjb.1 hjb.2
      have hlx : ∀ x, x ≠ j → l1 x = l x := fun x hx => by rw [hl1]; unfold updI; rw [if_neg hx]
      have hlj1 : l1 j = l j - 1 := by rw [hl1]; unfold updI; simp
      have g : RowA (sv (sv w (a + 2) j (l j - 1)) a 2 (n - 1)) a (n - 1) b k l1 := by
        rw [hl1]
        unfold RowA RowSh updI
        simp only [kdS, kdC, lnS, lnC, gvS, gvC]
        grind
      have fr : Fr w (sv (sv w (a + 2) j (l j - 1)) a 2 (n - 1)) a (a + 2) := Fr.trans (w' := sv w (a + 2) j (l j - 1)) (Fr.svI (by omega) (by omega)) (Fr.svI (by omega) (by omega))
      have ew : w32 (q + 1) = q + 1 := w32_eq (by omega) (by omega)
      by_cases cc : l j - 1 < low ∧ 1 < k
      · rw [if_pos cc, if_pos cc]
        have hm2 : 0 ≤ m ∧ m + 1 < k := by rw [hm]; split <;> omega
        have b1 : 0 ≤ l1 m ∧ l1 m ≤ 1000 := by
          by_cases z : m = j
          · rw [z, hlj1]; omega
          · rw [hlx m z]; have := h5 m hm2.1 (by omega); omega
        have b2 : 0 ≤ l1 (m + 1) ∧ l1 (m + 1) ≤ 1000 := by
          by_cases z : m + 1 = j
          · rw [z, hlj1]; omega
          · rw [hlx (m + 1) z]; have := h5 (m + 1) (by omega) (by omega); omega
        obtain ⟨w1, e1, e2, e3⟩ := s_merge (d := d) g (by omega) (j := m) (low := low) hm2 b1 b2 (by omega)
        refine ⟨w1, ?_, fr.trans e2, e3⟩
        rw [eX5_remove_36, if_pos (by omega), if_pos s1, ej]
        simp only [bI, wl_eq, kdS, kdC, lnS, lnC]
        rw [s3, e, w32_eq (x := l j - 1) (by omega) (by omega)]
        grind [w32_eq, gvS, gvC, bN]
      · rw [if_neg cc, if_neg cc]
        refine ⟨_, ?_, fr, g⟩
        rw [eX5_remove_36, if_pos (by omega), if_pos s1, ej]
        simp only [bI, wl_eq, kdS, kdC, lnS, lnC]
        rw [s3, e, w32_eq (x := l j - 1) (by omega) (by omega)]
        grind [w32_eq, gvS, gvC, bN]
    obtain ⟨w1, g1, g2, g3⟩ := g
    obtain ⟨w', r1, r2, r3⟩ := l_remove f (q + 1) w1 (n - 1) _ _ (by omega) (by omega) hc (by omega) g3 (Or.inl hst)
    rw [show n - ((f + 1 : Nat) : Int) = n - 1 - (f : Int) by omega]
    exact ⟨w', Rn.cut g1 r1, g2.trans r2, r3⟩
end RC5
