/-! ===== rows of the reference: all in one array ===== -/
/-- the array N holds X -/
def sa (w : sW) (N : Int) (X : Int → Int) : sW := (w.1, (fun r j => if r = N then X j else w.2.1 r j), w.2.2)
theorem kdA (w : sW) (N : Int) (X : Int → Int) (r : Int) : kd (sa w N X) r = kd w r := Eq.trans rfl rfl
theorem lnA (w : sW) (N : Int) (X : Int → Int) (r : Int) : ln (sa w N X) r = ln w r := Eq.trans rfl rfl
theorem gvA (w : sW) (N : Int) (X : Int → Int) (r j : Int) : gv (sa w N X) r j = if r = N then X j else gv w r j := Eq.trans rfl rfl
theorem sa_sv (w : sW) (N : Int) (X : Int → Int) (j v : Int) : sv (sa w N X) N j v = sa w N (updI X j v) := by
  unfold sv sa updI
  refine Prod.ext rfl (Prod.ext ?_ rfl)
  funext r x
  simp only []
  by_cases c : r = N
  · subst c
    simp
  · simp [c]
theorem sa_self (w : sW) (N : Int) : sa w N (gv w N) = w := by
  unfold sa gv
  refine Prod.ext rfl (Prod.ext ?_ rfl)
  funext r x
  simp only []
  by_cases c : r = N
  · subst c
    simp
  · simp [c]
theorem sa_eq {w : sW} {N : Int} {X Y : Int → Int} (h : ∀ x, X x = Y x) : sa w N X = sa w N Y := by rw [show X = Y from funext h]
theorem sa_sa (w : sW) (N : Int) (X Y : Int → Int) : sa (sa w N X) N Y = sa w N Y := by
  unfold sa
  refine Prod.ext rfl (Prod.ext ?_ rfl)
  funext r x
  simp only []
  by_cases c : r = N
  · simp [c]
  · simp [c]
/-- the reference at m, its numbers at m + 2 -/
def NwSh (w : sW) (m : Int) : Prop := kd w m = 10 ∧ gv w m 14 = m + 2 ∧ kd w (m + 2) = 20 ∧ ln w (m + 2) = 6062 ∧ 32 ≤ m
theorem NwSh.sa {w : sW} {m : Int} (h : NwSh w m) (X : Int → Int) : NwSh (sa w (m + 2) X) m := by
  unfold NwSh at *
  simp only [kdA, lnA, gvA]
  grind
/-- row r in the numbers X -/
def MR (X : Int → Int) (r : Int) (R : Rw) : Prop := X (2607 + r) = R.1 ∧ X (2611 + r) = R.2.2.1 ∧ (∀ i, 0 ≤ i → i < R.1 → X (3420 + 600 * r + i) = R.2.1 i) ∧ (∀ j, 0 ≤ j → j < R.2.2.1 → X (2816 + 151 * r + j) = R.2.2.2 j) ∧ ∀ j, R.2.2.1 ≤ j → j < 151 → X (2816 + 151 * r + j) = 0
section MO
variable {d : Nat} {w : sW} {m : Int}
theorem o_leafAt {r k : Int} (hr : 0 ≤ r ∧ r < 4) (hk : 0 ≤ k ∧ k ≤ 10000) : Ex pro (d + 1) 182 w [rV m, iV r, iV k] = some (some (iV (2816 + 151 * r + k)), w) := by
  refine xX12_leafAt (Rn.ret ?_)
  rw [eX12_leafAt_0, w32_eq (x := 151 * r) (by omega) (by omega), w32_eq (x := 2816 + 151 * r) (by omega) (by omega), w32_eq (x := 2816 + 151 * r + k) (by omega) (by omega)]
theorem o_sizeOf (h : NwSh w m) {r : Int} (hr : 0 ≤ r ∧ r < 4) : Ex pro (d + 1) 180 w [rV m, iV r] = some (some (iV (gv w (m + 2) (2607 + r))), w) := by
  obtain ⟨h1, h2, h3, h4, h5⟩ := h
  refine xX12_sizeOf (Rn.ret ?_)
  rw [eX12_sizeOf_0, h2, w32_eq (x := 2607 + r) (by omega) (by omega)]
  grind
theorem o_bitOf (h : NwSh w m) {r i : Int} (hr : 0 ≤ r ∧ r < 4) (hi : 0 ≤ i ∧ i < 600) : Ex pro (d + 1) 181 w [rV m, iV r, iV i] = some (some (iV (gv w (m + 2) (3420 + 600 * r + i))), w) := by
  obtain ⟨h1, h2, h3, h4, h5⟩ := h
  refine xX12_bitOf (Rn.ret ?_)
  rw [eX12_bitOf_0, h2, w32_eq (x := 600 * r) (by omega) (by omega), w32_eq (x := 3420 + 600 * r) (by omega) (by omega), w32_eq (x := 3420 + 600 * r + i) (by omega) (by omega)]
  grind
theorem l_leafOf (h : NwSh w m) {r p : Int} (hr : 0 ≤ r ∧ r < 4) {k : Int} {l : Int → Int} (hk : k ≤ 151) (hx : ∀ j, 0 ≤ j → j < k → gv w (m + 2) (2816 + 151 * r + j) = l j ∧ 0 ≤ l j ∧ l j ≤ 1000) : ∀ (f : Nat) (s j : Int), j + f = k - 1 → 0 ≤ j → 0 ≤ s → s ≤ 1000 * j → p < s + psm l j (f + 1) → Rn (Ex pro (d + 1)) mX12_leafOf (15, [some (rV m), some (iV r), some (iV p), some (iV j), some (iV (s + l j))], [], w) (some (iV (lfw l p s j f)), w)
  | 0, s, j, hj, hj0, hs, hsj, hp => by
    simp only [psm] at hp
    refine Rn.ret ?_
    rw [eX12_leafOf_15, if_pos (by omega)]
    rfl
  | f + 1, s, j, hj, hj0, hs, hsj, hp => by
    have g1 := hx j hj0 (by omega)
    have g2 := hx (j + 1) (by omega) (by omega)
    by_cases c : p < s + l j
    · rw [show lfw l p s j (f + 1) = j by simp [lfw, c]]
      refine Rn.ret ?_
      rw [eX12_leafOf_15, if_pos c]
    · have ih := l_leafOf h hr hk hx (p := p) f (s + l j) (j + 1) (by omega) (by omega) (by omega) (by omega) (by simp only [psm] at hp ⊢; omega)
      rw [show lfw l p s j (f + 1) = lfw l p (s + l j) (j + 1) f by simp [lfw, c]]
      have e := o_leafAt (d := d) (w := w) (m := m) (r := r) (k := j + 1) hr (by omega)
      obtain ⟨h1, h2, h3, h4, h5⟩ := h
      refine Rn.cut ?_ ih
      rw [eX12_leafOf_15, if_neg c, w32_eq (x := j + 1) (by omega) (by omega), e]
      simp only [bI]
      rw [h2, g2.1, w32_eq (x := s + l j + l (j + 1)) (by omega) (by omega)]
      grind
theorem o_leafOf (h : NwSh w m) {r p : Int} (hr : 0 ≤ r ∧ r < 4) {k : Int} {l : Int → Int} (hk : 1 ≤ k ∧ k ≤ 151) (hx : ∀ j, 0 ≤ j → j < k → gv w (m + 2) (2816 + 151 * r + j) = l j ∧ 0 ≤ l j ∧ l j ≤ 1000) (hp : p < psm l 0 k.toNat) : Ex pro (d + 2) 183 w [rV m, iV r, iV p] = some (some (iV (lfw l p 0 0 (k - 1).toNat)), w) := by
  have e := l_leafOf (d := d) h hr hk.2 hx (p := p) (k - 1).toNat 0 0 (by omega) (by omega) (by omega) (by omega) (by rw [show (k - 1).toNat + 1 = k.toNat by omega]; omega)
  rw [Int.zero_add] at e
  refine xX12_leafOf (Rn.cut ?_ e)
  have g := hx 0 (by omega) (by omega)
  have e0 := o_leafAt (d := d) (w := w) (m := m) (r := r) (k := 0) hr (by omega)
  obtain ⟨h1, h2, h3, h4, h5⟩ := h
  rw [eX12_leafOf_0, e0]
  simp only [bI]
  rw [h2, g.1]
  grind
/-- the walk finds the class's leaf -/
theorem lfw_all {l : Int → Int} {p : Int} : ∀ (f : Nat) (s j : Int), (∀ x, j ≤ x → x < j + f → 0 ≤ l x) → s + psm l j f ≤ p → lfw l p s j f = j + f
  | 0, s, j, h, hp => by simp [lfw]
  | f + 1, s, j, h, hp => by
    simp only [psm] at hp
    have h0 : 0 ≤ psm l (j + 1) f := by
      have := psm_ge (l := l) (c := 0) f (j + 1) (fun x x1 x2 => h x (by omega) (by omega))
      omega
    have := lfw_all (l := l) (p := p) f (s + l j) (j + 1) (fun x x1 x2 => h x (by omega) (by omega)) (by omega)
    simp only [lfw]
    rw [if_neg (by omega), this]
    omega
theorem leafW_eq {l : Int → Int} {n k p : Int} (hk : 1 ≤ k) (hl : ∀ x, 0 ≤ x → x < k → 0 ≤ l x) (hn : psm l 0 k.toNat = n) : leafW l n k p = lfw l p 0 0 (k - 1).toNat := by
  have e1 : lastL k = k - 1 := by unfold lastL; grind
  unfold leafW
  rw [e1]
  split
  · rfl
  · have e := psm_cut l (j := k - 1) (k := k) (by omega) (by omega)
    rw [show k - (k - 1) - 1 = 0 by omega] at e
    simp only [Int.toNat_zero, psm] at e
    rw [lfw_all _ _ _ (fun x x1 x2 => hl x x1 (by omega)) (by omega)]
    omega
end MO
