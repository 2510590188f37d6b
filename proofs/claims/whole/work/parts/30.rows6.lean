/-! ===== rows of the class as one thing ===== -/
/-- a row: how many bits, the bits, how many leaves, their sizes -/
abbrev Rw := Int × (Int → Int) × Int × (Int → Int)
/-- the row R stands at a, and is as a row must be -/
def RowI (w : sW) (a : Int) (R : Rw) (low : Int) : Prop := RowA w a R.1 R.2.1 R.2.2.1 R.2.2.2 ∧ LvOk R.1 R.2.2.1 R.2.2.2 low ∧ ∀ i, 0 ≤ i → i < R.1 → R.2.1 i = 0 ∨ R.2.1 i = 1
theorem RowI.at {w : sW} {a : Int} {R : Rw} {low : Int} (h : RowI w a R low) : RowAt w a R.1 R.2.1 R.2.2.1 R.2.2.2 := h.2.1.at h.1
theorem RowSh.fr {w w' : sW} {a lo hi : Int} (h : RowSh w a) (f : Fr w w' lo hi) (o : a + 2 < lo ∨ hi < a) : RowSh w' a := by
  unfold RowSh at *
  simp only [f.kdE, f.lnE]
  rw [f.2.2 a 0 (by omega), f.2.2 a 1 (by omega)]
  exact h
theorem RowA.fr {w w' : sW} {a n k lo hi : Int} {b l : Int → Int} (h : RowA w a n b k l) (f : Fr w w' lo hi) (o : a + 2 < lo ∨ hi < a) : RowA w' a n b k l := by
  refine ⟨h.1.fr f o, ?_, ?_, fun i x y => ?_, fun j x y => ?_⟩
  · rw [f.2.2 _ _ (by omega)]; exact h.2.1
  · rw [f.2.2 _ _ (by omega)]; exact h.2.2.1
  · rw [f.2.2 _ _ (by omega)]; exact h.2.2.2.1 i x y
  · rw [f.2.2 _ _ (by omega)]; exact h.2.2.2.2 j x y
theorem RowI.fr {w w' : sW} {a low lo hi : Int} {R : Rw} (h : RowI w a R low) (f : Fr w w' lo hi) (o : a + 2 < lo ∨ hi < a) : RowI w' a R low := ⟨h.1.fr f o, h.2.1, h.2.2⟩
theorem RowA.cg {w : sW} {a n k : Int} {b l b' l' : Int → Int} (h : RowA w a n b k l) (hb : ∀ i, 0 ≤ i → i < n → b i = b' i) (hl : ∀ i, 0 ≤ i → i < k → l i = l' i) : RowA w a n b' k l' := ⟨h.1, h.2.1, h.2.2.1, fun i x y => (h.2.2.2.1 i x y).trans (hb i x y), fun i x y => (h.2.2.2.2 i x y).trans (hl i x y)⟩
/-- a bit put in -/
def insR (R : Rw) (i v low : Int) : Rw := (R.1 + 1, insB R.2.1 i v, insK R.2.2.2 R.1 R.2.2.1 i low, insL R.2.2.2 R.1 R.2.2.1 i low)
/-- c bits out -/
def remR (R : Rw) (i c low : Int) : Rw := (R.1 - c, remB R.2.1 i c, if R.1 - c = 0 then 0 else (remI i low c.toNat R.1 (R.2.2.1, R.2.2.2)).1, (remI i low c.toNat R.1 (R.2.2.1, R.2.2.2)).2)
/-- c bits turned -/
def turR (R : Rw) (i c : Int) : Rw := (R.1, (fun x => if i ≤ x ∧ x < i + c then 1 - R.2.1 x else R.2.1 x), R.2.2)
/-- f bits of t from p on, put at the end one by one -/
def appR (t : Int → Int) (low : Int) (p : Int) : Nat → Rw → Rw
  | 0, R => R
  | f + 1, R => appR t low (p + 1) f (insR R R.1 (t p) low)
def clrR (R : Rw) : Rw := (0, R.2.1, 0, R.2.2.2)
section RC6
variable {d : Nat} {w : sW} {a low : Int} {R : Rw}
theorem r_insert (h : RowI w a R low) (hn : R.1 < 600) {i v : Int} (hi : 0 ≤ i ∧ i ≤ R.1) (hv : v = 0 ∨ v = 1) : ∃ w', Ex pro (d + 2) 48 w [rV a, iV i, iV v, iV low] = some (none, w') ∧ Fr w w' a (a + 2) ∧ RowI w' a (insR R i v low) low := by
  have hk := h.2.1.k
  obtain ⟨w', e1, e2, e3⟩ := s_insert (d := d) (low := low) h.1 ⟨h.2.1.2.1.1, hn⟩ ⟨h.2.1.2.2.1, hk⟩ (fun j x y => by have := h.2.1.2.2.2.2 j x y; have := h.2.1.1; omega) hi hv (by have := h.2.1.1; omega)
  refine ⟨w', e1, e2, e3, h.2.1.ins hn i, fun x x1 x2 => ?_⟩
  show insB R.2.1 i v x = 0 ∨ insB R.2.1 i v x = 1
  change x < R.1 + 1 at x2
  unfold insB
  split
  · exact h.2.2 x x1 (by omega)
  · split
    · exact hv
    · exact h.2.2 (x - 1) (by omega) (by omega)
theorem r_remove (h : RowI w a R low) {i c : Int} (hi : 0 ≤ i) (hc : 0 ≤ c) (hn : i + c ≤ R.1) : ∃ w', Ex pro (d + 3) 50 w [rV a, iV i, iV c, iV low] = some (none, w') ∧ Fr w w' a (a + 2) ∧ RowI w' a (remR R i c low) low := by
  have hr := s_hasRange (d := d + 1) h.at (i := i) (m := c) (by have := h.2.1.2.1; unfold in32; omega)
  rw [if_pos ⟨hi, hc, hn⟩] at hr
  obtain ⟨hA, hL, hB⟩ := h
  obtain ⟨n, b, k, l⟩ := R
  change i + c ≤ n at hn
  have hn6 : 0 ≤ n ∧ n ≤ 600 := hL.2.1
  have g : RowA (cp w (a + 1) (i + c) (a + 1) i (n - i - c)) a n (gv (cp w (a + 1) (i + c) (a + 1) i (n - i - c)) (a + 1)) k l := by
    obtain ⟨⟨s1, s2, s3, s4, s5, s6, s7, s8⟩, h2, h3, h6, h7⟩ := hA
    refine ⟨?_, ?_, ?_, fun _ _ _ => rfl, ?_⟩
    · unfold RowSh
      simp only [kdS, kdC, lnS, lnC, gvS, gvC]
      grind
    · rw [gvC, if_neg (by omega)]; exact h2
    · rw [gvC, if_neg (by omega)]; exact h3
    · intro j x y
      rw [gvC, if_neg (by omega)]; exact h7 j x y
  have hmd : LvMd n k l low ∨ (c.toNat = 0 ∧ n = 0 ∧ k = 0) := by
    by_cases z : 1 ≤ n
    · exact Or.inl (LvOk.md hL z)
    · refine Or.inr ⟨by omega, by omega, ?_⟩
      obtain ⟨q1, q2, q3, q4, q5⟩ := hL
      change 0 ≤ k at q3
      change psm l 0 k.toNat = n at q4
      rcases Int.lt_or_le 0 k with z2 | z2
      · have q := psm_ge (l := l) (c := 1) k.toNat 0 (fun x x1 x2 => (q5 x x1 (by show x < k; omega)).1.1)
        omega
      · omega
  obtain ⟨w', e1, e2, e3⟩ := l_remove (d := d) (a := a) (low := low) (i := i) (c := c) c.toNat 0 _ n k l (by omega) (by omega) (by omega) (by omega) g hmd
  rw [show n - (c.toNat : Int) = n - c by omega] at e3
  refine ⟨w', xX5_remove (Rn.cut ?_ e1), (Fr.cpI (by omega) (by omega)).trans e2, e3.cg (fun x x1 x2 => ?_) (fun _ _ _ => rfl), ?_, fun x x1 x2 => ?_⟩
  · obtain ⟨⟨s1, s2, s3, s4, s5, s6, s7, s8⟩, h2, h3, h6, h7⟩ := hA
    change gv w a 2 = n at h2
    rw [eX5_remove_0, if_pos s1, hr]
    simp only [bI, wl_eq]
    rw [s2, h2, w32_eq (x := i + c) (by omega) (by omega), w32_eq (x := n - i) (by omega) (by omega), w32_eq (x := n - i - c) (by omega) (by omega)]
    grind
  · change x < n - c at x2
    rw [gvC]
    show _ = remB b i c x
    unfold remB
    by_cases z : x < i
    · rw [if_neg (by omega), if_pos z]
      exact hA.2.2.2.1 x x1 (by show x < n; omega)
    · rw [if_pos (by omega), if_neg z, show i + c + (x - i) = x + c by omega]
      exact hA.2.2.2.1 (x + c) (by omega) (by show x + c < n; omega)
  · show LvOk (n - c) (if n - c = 0 then 0 else _) _ low
    by_cases z : n - c = 0
    · rw [if_pos z, z]
      exact LvOk.zero hL.1
    · rw [if_neg z]
      rcases hmd with y | y
      · have := LvMd.remI (i := i) c.toNat n k l y (by omega)
        rw [show n - (c.toNat : Int) = n - c by omega] at this
        exact this.ok (by omega)
      · omega
  · change x < n - c at x2
    show remB b i c x = 0 ∨ remB b i c x = 1
    unfold remB
    split
    · exact hB x x1 (by show x < n; omega)
    · exact hB (x + c) (by omega) (by show x + c < n; omega)
theorem l_turnOver {C : sC} {n k i c : Int} {l : Int → Int} (hn : 0 ≤ n ∧ n ≤ 600) (hi : 0 ≤ i) (hc : i + c ≤ n) : ∀ (f : Nat) (p : Int) (w : sW) (b : Int → Int), p + f = i + c → i ≤ p → RowA w a n b k l → (∀ x, 0 ≤ x → x < n → b x = 0 ∨ b x = 1) → ∃ w', Rn C mX5_turnOver (12, [some (rV a), some (iV i), some (iV c), some (iV p)], [], w) (none, w') ∧ Fr w w' a (a + 2) ∧ RowA w' a n (fun x => if p ≤ x ∧ x < i + c then 1 - b x else b x) k l
  | 0, p, w, b, hp, hip, h, hb => by
    refine ⟨w, Rn.ret ?_, Fr.refl _ _ _, h.cg (fun x x1 x2 => by rw [if_neg (by omega)]) (fun _ _ _ => rfl)⟩
    rw [eX5_turnOver_12]
    grind [w32_eq]
  | f + 1, p, w, b, hp, hip, h, hb => by
    have hbp := hb p (by omega) (by omega)
    have g : RowA (sv w (a + 1) p (1 - b p)) a n (updI b p (1 - b p)) k l := by
      obtain ⟨⟨s1, s2, s3, s4, s5, s6, s7, s8⟩, h2, h3, h6, h7⟩ := h
      unfold RowA RowSh updI
      simp only [kdS, kdC, lnS, lnC, gvS, gvC]
      grind
    obtain ⟨w', e1, e2, e3⟩ := l_turnOver (C := C) hn hi hc f (p + 1) _ _ (by omega) (by omega) g (fun x x1 x2 => by
      unfold updI
      split
      · omega
      · exact hb x x1 x2)
    refine ⟨w', Rn.cut ?_ e1, (Fr.svI (by omega) (by omega)).trans e2, e3.cg (fun x x1 x2 => ?_) (fun _ _ _ => rfl)⟩
    · obtain ⟨⟨s1, s2, s3, s4, s5, s6, s7, s8⟩, h2, h3, h6, h7⟩ := h
      have e := h6 p (by omega) (by omega)
      rw [eX5_turnOver_12]
      simp only [wl_eq]
      rw [s2, e, w32_eq (x := 1 - b p) (by omega) (by omega), w32_eq (x := p + 1) (by omega) (by omega), w32_eq (x := i + c) (by omega) (by omega)]
      grind
    · unfold updI
      by_cases z : x = p
      · subst z
        simp
        omega
      · rw [if_neg z]
        by_cases z2 : p ≤ x ∧ x < i + c
        · rw [if_pos z2, if_pos (by omega)]
        · rw [if_neg z2, if_neg (by omega)]
theorem r_turnOver (h : RowI w a R low) {i c : Int} (hi : 0 ≤ i) (hc : 0 ≤ c) (hn : i + c ≤ R.1) : ∃ w', Ex pro (d + 2) 52 w [rV a, iV i, iV c] = some (none, w') ∧ Fr w w' a (a + 2) ∧ RowI w' a (turR R i c) low := by
  have hr := s_hasRange (d := d) h.at (i := i) (m := c) (by have := h.2.1.2.1; unfold in32; omega)
  rw [if_pos ⟨hi, hc, hn⟩] at hr
  obtain ⟨w', e1, e2, e3⟩ := l_turnOver (C := Ex pro (d + 1)) (a := a) h.2.1.2.1 hi hn c.toNat i w _ (by omega) (by omega) h.1 h.2.2
  refine ⟨w', xX5_turnOver (Rn.cut ?_ e1), e2, e3, h.2.1, fun x x1 x2 => ?_⟩
  · rw [eX5_turnOver_0, if_pos h.1.1.1, hr]
    simp only [bI]
    grind
  · have := h.2.2 x x1 x2
    unfold turR
    simp only []
    split <;> omega
theorem r_clear (h : RowI w a R low) : ∃ w', Ex pro (d + 1) 30 w [rV a] = some (none, w') ∧ Fr w w' a (a + 2) ∧ RowI w' a (clrR R) low := by
  refine ⟨sv (sv w a 2 0) a 3 0, ?_, Fr.trans (w' := sv w a 2 0) (Fr.svI (by omega) (by omega)) (Fr.svI (by omega) (by omega)), ?_, LvOk.zero h.2.1.1, fun x x1 x2 => by change x < 0 at x2; omega⟩
  · refine xX5_clear (Rn.ret ?_)
    rw [eX5_clear_0, if_pos h.1.1.1]
    simp only [wl_eq, kdS]
    rw [if_pos h.1.1.1]
  · obtain ⟨⟨s1, s2, s3, s4, s5, s6, s7, s8⟩, h2, h3, h6, h7⟩ := h.1
    unfold RowA RowSh clrR
    simp only [kdS, kdC, lnS, lnC, gvS, gvC]
    grind
theorem appR_n (t : Int → Int) : ∀ (f : Nat) (p : Int) (R : Rw), (appR t low p f R).1 = R.1 + f
  | 0, p, R => by simp [appR]
  | f + 1, p, R => by
    have := appR_n t f (p + 1) (insR R R.1 (t p) low)
    change _ = R.1 + 1 + (f : Int) at this
    simp only [appR]
    omega
theorem l_append {a' : Int} {R' : Rw} (ho : a + 2 < a' ∨ a' + 2 < a) : ∀ (f : Nat) (p : Int) (w : sW) (R : Rw), p + f = R'.1 → 0 ≤ p → R.1 + f ≤ 600 → RowI w a R low → RowI w a' R' low → ∃ w', Rn (Ex pro (d + 2)) mX5_append (3, [some (rV a), some (rV a'), none, some (iV low), some (iV p)], [], w) (none, w') ∧ Fr w w' a (a + 2) ∧ RowI w' a (appR R'.2.1 low p f R) low
  | 0, p, w, R, hp, hp0, hn, h, h' => by
    refine ⟨w, Rn.ret ?_, Fr.refl _ _ _, h⟩
    have e1 := h'.1.1.1
    have e2 := h'.1.2.1
    rw [eX5_append_3]
    grind
  | f + 1, p, w, R, hp, hp0, hn, h, h' => by
    obtain ⟨w1, e1, e2, e3⟩ := r_insert (d := d) h (by omega) (i := R.1) (v := R'.2.1 p) ⟨h.2.1.2.1.1, by omega⟩ (h'.2.2 p hp0 (by omega))
    obtain ⟨w', g1, g2, g3⟩ := l_append ho f (p + 1) w1 _ (by omega) (by omega) (by show R.1 + 1 + (f : Int) ≤ 600; omega) e3 (h'.fr e2 (by omega))
    refine ⟨w', Rn.cut ?_ g1, e2.trans g2, g3⟩
    obtain ⟨⟨s1, s2, s3, s4, s5, s6, s7, s8⟩, h2, h3, h6, h7⟩ := h.1
    obtain ⟨⟨t1, t2, t3, t4, t5, t6, t7, t8⟩, k2, k3, k6, k7⟩ := h'.1
    have hr := h'.2.1.2.1
    rw [eX5_append_3, t2, k6 p hp0 (by omega), h2, e1, k2]
    simp only [bN]
    grind [w32_eq]
theorem r_append {a' : Int} {R' : Rw} (ho : a + 2 < a' ∨ a' + 2 < a) (h : RowI w a R low) (h' : RowI w a' R' low) {p : Int} (hp : 0 ≤ p ∧ p ≤ R'.1) (hn : R.1 + R'.1 - p ≤ 600) : ∃ w', Ex pro (d + 3) 53 w [rV a, rV a', iV p, iV low] = some (none, w') ∧ Fr w w' a (a + 2) ∧ RowI w' a (appR R'.2.1 low p (R'.1 - p).toNat R) low := by
  obtain ⟨w', g1, g2, g3⟩ := l_append (d := d) ho (R' := R') (R'.1 - p).toNat p w R (by omega) hp.1 (by omega) h h'
  refine ⟨w', xX5_append (Rn.cut ?_ g1), g2, g3⟩
  rw [eX5_append_0]
/-- the row's room: cells enough, whatever they hold -/
theorem r_copyFrom {a' : Int} {R' : Rw} (ho : a + 2 < a' ∨ a' + 2 < a) (h : RowSh w a) (h' : RowI w a' R' low) : ∃ w', Ex pro (d + 1) 31 w [rV a, rV a'] = some (none, w') ∧ Fr w w' a (a + 2) ∧ RowI w' a R' low := by
  have hk := h'.2.1.k
  have hk0 := h'.2.1.2.2.1
  have hn := h'.2.1.2.1
  obtain ⟨n, b, k, l⟩ := R'
  change 0 ≤ n ∧ n ≤ 600 at hn
  change k ≤ 150 at hk
  change 0 ≤ k at hk0
  obtain ⟨⟨t1, t2, t3, t4, t5, t6, t7, t8⟩, k2, k3, k6, k7⟩ := h'.1
  obtain ⟨s1, s2, s3, s4, s5, s6, s7, s8⟩ := h
  change gv w a' 2 = n at k2
  change gv w a' 3 = k at k3
  refine ⟨sv (sv (cp (cp w (a' + 1) 0 (a + 1) 0 n) (a' + 2) 0 (a + 2) 0 k) a 2 n) a 3 k, ?_, Fr.trans (w' := cp w (a' + 1) 0 (a + 1) 0 n) (Fr.cpI (by omega) (by omega)) (Fr.trans (w' := cp (cp w (a' + 1) 0 (a + 1) 0 n) (a' + 2) 0 (a + 2) 0 k) (Fr.cpI (by omega) (by omega)) (Fr.trans (Fr.svI (r := a) (by omega) (by omega)) (Fr.svI (by omega) (by omega)))), ?_, h'.2⟩
  · refine xX5_copyFrom (Rn.ret ?_)
    rw [eX5_copyFrom_0]
    simp only [wl_eq, kdS, kdC, lnS, lnC]
    rw [k2, t2, s2]
    have q1 : gv (cp w (a' + 1) 0 (a + 1) 0 n) a' 1 = a' + 2 := by rw [gvC, if_neg (by omega), t3]
    have q2 : gv (cp w (a' + 1) 0 (a + 1) 0 n) a 1 = a + 2 := by rw [gvC, if_neg (by omega), s3]
    have q3 : gv (cp w (a' + 1) 0 (a + 1) 0 n) a' 3 = k := by rw [gvC, if_neg (by omega), k3]
    have q4 : gv (cp (cp w (a' + 1) 0 (a + 1) 0 n) (a' + 2) 0 (a + 2) 0 k) a' 2 = n := by rw [gvC, if_neg (by omega), gvC, if_neg (by omega), k2]
    have q5 : gv (sv (cp (cp w (a' + 1) 0 (a + 1) 0 n) (a' + 2) 0 (a + 2) 0 k) a 2 n) a' 3 = k := by rw [gvS, if_neg (by omega), gvC, if_neg (by omega), q3]
    rw [q1, q2, q3, q4, q5]
    grind
  · unfold RowA RowSh
    simp only [kdS, kdC, lnS, lnC, gvS, gvC]
    grind
end RC6
