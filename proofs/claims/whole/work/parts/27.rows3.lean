def merL (l : Int → Int) (j : Int) : Int → Int := fun x => if x < j then l x else if x = j then l j + l (j + 1) else l (x + 1)
def insK0 (k : Int) : Int := if k = 0 then 1 else k
def insL0 (l : Int → Int) (k : Int) : Int → Int := if k = 0 then updI l 0 0 else l
def insJ (l : Int → Int) (n k i : Int) : Int := leafW (insL0 l k) n (insK0 k) (if i = 0 then 0 else i - 1)
def insL1 (l : Int → Int) (n k i : Int) : Int → Int := updI (insL0 l k) (insJ l n k i) (insL0 l k (insJ l n k i) + 1)
def insK (l : Int → Int) (n k i low : Int) : Int := halK (insL1 l n k i) (insK0 k) (insJ l n k i) low
def insL (l : Int → Int) (n k i low : Int) : Int → Int := halL (insL1 l n k i) (insK0 k) (insJ l n k i) low
def insB (b : Int → Int) (i v : Int) : Int → Int := fun x => if x < i then b x else if x = i then v else b (x - 1)
section RC2
variable {d : Nat} {w : sW} {a n k : Int} {b l : Int → Int}
theorem s_merge (h : RowA w a n b k l) (hk : 2 ≤ k ∧ k ≤ 151) {j low : Int} (hj : 0 ≤ j ∧ j + 1 < k) (hl : 0 ≤ l j ∧ l j ≤ 1000) (hl' : 0 ≤ l (j + 1) ∧ l (j + 1) ≤ 1000) (hlow : 0 ≤ low ∧ low ≤ 1000) : ∃ w', Ex pro (d + 2) 51 w [rV a, iV j, iV low] = some (none, w') ∧ Fr w w' a (a + 2) ∧ RowA w' a n b (halK (merL l j) (k - 1) j low) (halL (merL l j) (k - 1) j low) := by
  obtain ⟨⟨s1, s2, s3, s4, s5, s6, s7, s8⟩, h2, h3, h6, h7⟩ := h
  have e := h7 j (by omega) (by omega)
  have e' := h7 (j + 1) (by omega) (by omega)
  have g : RowA (sv (cp (sv w (a + 2) j (l j + l (j + 1))) (a + 2) (j + 2) (a + 2) (j + 1) (k - j - 2)) a 3 (k - 1)) a n b (k - 1) (merL l j) := by
    unfold RowA RowSh merL
    simp only [kdS, kdC, lnS, lnC, gvS, gvC]
    grind
  have hmj : merL l j j = l j + l (j + 1) := by unfold merL; grind
  obtain ⟨w', e1, e2, e3⟩ := s_halve (d := d) g (by omega) (j := j) (low := low) (by omega) (by omega) hlow
  refine ⟨w', ?_, Fr.trans (w' := sv w (a + 2) j (l j + l (j + 1))) (Fr.svI (by omega) (by omega)) (Fr.trans (Fr.cpI (r := a + 2) (by omega) (by omega)) (Fr.trans (Fr.svI (by omega) (by omega)) e2)), e3⟩
  refine xX5_mergeWithNext (Rn.ret ?_)
  rw [eX5_mergeWithNext_0]
  simp only [wl_eq, kdS, kdC, lnS, lnC]
  rw [s3, w32_eq (x := j + 1) (by omega) (by omega), w32_eq (x := j + 2) (by omega) (by omega)]
  grind [w32_eq, gvS, gvC, bN]
theorem l_insert50 (h : RowA w a n b k l) (hn : 0 ≤ n ∧ n < 600) (hk : 1 ≤ k ∧ k ≤ 150) (hl : ∀ j, 0 ≤ j → j < k → 0 ≤ l j ∧ l j ≤ 999) {i v low p : Int} (hi : 0 ≤ i ∧ i ≤ n) (hv : v = 0 ∨ v = 1) (hlow : 0 ≤ low ∧ low ≤ 1000) : ∃ w', Rn (Ex pro (d + 1)) mX5_insert (50, [some (rV a), some (iV i), some (iV v), some (iV low), none], [iV p, rV a], w) (none, w') ∧ Fr w w' a (a + 2) ∧ RowA w' a (n + 1) (insB b i v) (halK (updI l (leafW l n k p) (l (leafW l n k p) + 1)) k (leafW l n k p) low) (halL (updI l (leafW l n k p) (l (leafW l n k p) + 1)) k (leafW l n k p) low) := by
  have ej := s_leafWith (d := d) h (by omega) (by omega) (fun j h1 h2 => ⟨(hl j h1 h2).1, by have := hl j h1 h2; omega⟩) p
  have hj := leafW_rg (l := l) (n := n) (k := k) (by omega) p
  generalize leafW l n k p = j at ej hj ⊢
  have hlj := hl j hj.1 hj.2
  obtain ⟨⟨s1, s2, s3, s4, s5, s6, s7, s8⟩, h2, h3, h6, h7⟩ := h
  have e := h7 j (by omega) (by omega)
  have g : RowA (sv w (a + 2) j (l j + 1)) a n b k (updI l j (l j + 1)) := by
    unfold RowA RowSh updI
    simp only [kdS, kdC, lnS, lnC, gvS, gvC]
    grind
  have hu : updI l j (l j + 1) j = l j + 1 := by unfold updI; grind
  obtain ⟨w1, e1, e2, e3⟩ := s_halve (d := d) g (by omega) (j := j) (low := low) (by omega) (by omega) hlow
  generalize halK (updI l j (l j + 1)) k j low = k' at e3 ⊢
  generalize halL (updI l j (l j + 1)) k j low = l' at e3 ⊢
  obtain ⟨⟨t1, t2, t3, t4, t5, t6, t7, t8⟩, g2, g3, g6, g7⟩ := e3
  refine ⟨sv (sv (cp w1 (a + 1) i (a + 1) (i + 1) (n - i)) (a + 1) i v) a 2 (n + 1), ?_, Fr.trans (w' := sv w (a + 2) j (l j + 1)) (Fr.svI (by omega) (by omega)) (Fr.trans e2 (Fr.trans (Fr.cpI (r := a + 1) (by omega) (by omega)) (Fr.trans (Fr.svI (by omega) (by omega)) (Fr.svI (by omega) (by omega))))), ?_⟩
  · refine Rn.ret ?_
    rw [eX5_insert_50, if_pos s1, ej]
    simp only [bI, wl_eq, kdS, kdC, lnS, lnC]
    rw [s3, e, w32_eq (x := l j + 1) (by omega) (by omega), e1]
    simp only [bN]
    grind [w32_eq, gvS, gvC]
  · unfold RowA RowSh insB
    simp only [kdS, kdC, lnS, lnC, gvS, gvC]
    grind
theorem s_insert (h : RowA w a n b k l) (hn : 0 ≤ n ∧ n < 600) (hk : 0 ≤ k ∧ k ≤ 150) (hl : ∀ j, 0 ≤ j → j < k → 0 ≤ l j ∧ l j ≤ 999) {i v low : Int} (hi : 0 ≤ i ∧ i ≤ n) (hv : v = 0 ∨ v = 1) (hlow : 0 ≤ low ∧ low ≤ 1000) : ∃ w', Ex pro (d + 2) 48 w [rV a, iV i, iV v, iV low] = some (none, w') ∧ Fr w w' a (a + 2) ∧ RowA w' a (n + 1) (insB b i v) (insK l n k i low) (insL l n k i low) := by
  have eg := s_hasGap (d := d) (h.At (by omega) hk) i
  rw [if_pos hi] at eg
  have g : ∃ w0, w0 = (if k = 0 then sv (sv w (a + 2) 0 0) a 3 1 else w) ∧ Fr w w0 a (a + 2) ∧ RowA w0 a n b (insK0 k) (insL0 l k) := by
    refine ⟨_, rfl, ?_, ?_⟩
    · split
      · exact Fr.trans (w' := sv w (a + 2) 0 0) (Fr.svI (by omega) (by omega)) (Fr.svI (by omega) (by omega))
      · exact Fr.refl _ _ _
    · obtain ⟨⟨s1, s2, s3, s4, s5, s6, s7, s8⟩, h2, h3, h6, h7⟩ := h
      unfold RowA RowSh insK0 insL0 updI
      split
      · simp only [kdS, kdC, lnS, lnC, gvS, gvC]
        grind
      · grind
  obtain ⟨w0, ew, f0, g0⟩ := g
  obtain ⟨w', e1, e2, e3⟩ := l_insert50 (d := d) g0 hn (by unfold insK0; grind) (fun j h1 h2 => by
    unfold insK0 at h2
    unfold insL0 updI
    by_cases c : k = 0
    · rw [if_pos c] at h2 ⊢
      have hj : j = 0 := by omega
      simp [hj]
    · rw [if_neg c] at h2 ⊢
      exact hl j h1 h2) hi hv hlow (p := if i = 0 then 0 else i - 1)
  refine ⟨w', xX5_insert (Rn.cut ?_ e1), Fr.trans f0 e2, e3⟩
  obtain ⟨⟨s1, s2, s3, s4, s5, s6, s7, s8⟩, h2, h3, h6, h7⟩ := h
  rw [eX5_insert_0, if_pos s1, eg]
  simp only [bI, wl_eq, kdS, kdC, lnS, lnC]
  rw [w32_eq (x := i - 1) (by omega) (by omega)]
  grind
end RC2
