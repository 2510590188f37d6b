/-! ===== image and restore: the class ===== -/
section SC
variable {d : Nat} {w : sW}
theorem StL.at : ∀ (P : List Sp) (i : Int) {w : sW} {a : Int} {x : Sp} {Q : List Sp}, StL w a i (P ++ x :: Q) → (gv w (a + 1) (i + P.length) = x.1 ∧ gv w (a + 2) (i + P.length) = x.2.1 ∧ gv w (a + 3) (i + P.length) = x.2.2) ∧ 1 ≤ x.1 ∧ x.1 ≤ 23
  | [], i, w, a, x, Q, h => by
    rw [show i + (([] : List Sp).length : Int) = i by simp]
    exact ⟨h.1, h.2.1⟩
  | y :: P, i, w, a, x, Q, h => by
    have g := StL.at P (i + 1) h.2.2
    rw [show i + 1 + (P.length : Int) = i + ((y :: P).length : Int) by rw [List.length_cons]; omega] at g
    exact g
theorem l_seCopy {a a' c : Int} (ho : a + 4 < a' ∨ a' + 4 < a) (ha : 25 ≤ a) : ∀ (Q P : List Sp) (w : sW), WordI w → SeSh w a → SeR w a' c (P ++ Q) → StL w a 0 P → ∃ w', Rn (Ex pro d) mX7_copyFrom (2, [some (rV a), some (rV a'), some (iV (P.length : Int))], [], w) (none, w') ∧ SeR w' a c (P ++ Q) ∧ Mf w w' (snP a)
  | [], P, w, hW, hE, hR, hP => by
    have m1 := Mf.svI w a 4 (P.length : Int)
    have m2 := Mf.svI (sv w a 4 (P.length : Int)) a 5 c
    have mm : Mf w (sv (sv w a 4 (P.length : Int)) a 5 c) (fun r j => r = a ∧ (j = 4 ∨ j = 5)) := (m1.trans m2).mono (fun r j z => by omega)
    obtain ⟨b1, b2, b3, b4, b5, b6⟩ := hR
    rw [List.append_nil] at b2 b3 b6
    have k7 := hE.1.1
    have k7' := b1.1.1
    refine ⟨_, Rn.ret ?_, ⟨hE.mf mm (fun j j0 j1 => by omega), by rw [m2.gvE (by omega), gvSS, List.append_nil], by rw [List.append_nil]; exact b3, gvSS _ _ _ _, b5, by rw [List.append_nil]; exact StL.mf mm P 0 hP (fun r j r0 r1 j0 j1 => by omega)⟩, mm.mono (fun r j z => by omega)⟩
    have x5 : gv (sv w a 4 (P.length : Int)) a' 5 = c := by rw [m1.gvE (by omega)]; exact b4
    rw [eX7_copyFrom_2, if_pos k7', b2, if_neg (by omega), if_pos k7', if_pos k7, wl_eq, if_pos (show kd (sv w a 4 (P.length : Int)) a' = 7 from k7'), if_pos (show kd (sv w a 4 (P.length : Int)) a = 7 from k7), x5, wl_eq]
  | x :: Q, P, w, hW, hE, hR, hP => by
    have hR0 := hR
    obtain ⟨b1, b2, b3, b4, b5, b6⟩ := hR
    have hl : ((P ++ x :: Q).length : Int) = (P.length : Int) + 1 + Q.length := by rw [List.length_append, List.length_cons]; omega
    rw [hl] at b2 b3
    obtain ⟨⟨e1, e2, e3⟩, hx⟩ := StL.at P 0 b6
    rw [show 0 + (P.length : Int) = P.length by omega] at e1 e2 e3
    have kx := hW.k30 hx
    obtain ⟨⟨a1, a2, a3, a4, a5⟩, c1, c2, c3, c4, c5⟩ := hE
    obtain ⟨⟨a1', a2', a3', a4', a5'⟩, c1', c2', c3', c4', c5'⟩ := b1
    generalize hp : (P.length : Int) = l at b2 b3 e1 e2 e3
    have l0 : 0 ≤ l := by omega
    have m1 := Mf.svI w (a + 1) l x.1
    have m2 := Mf.svI (sv w (a + 1) l x.1) (a + 2) l x.2.1
    have m3 := Mf.svI (sv (sv w (a + 1) l x.1) (a + 2) l x.2.1) (a + 3) l x.2.2
    have m12 : Mf w (sv (sv w (a + 1) l x.1) (a + 2) l x.2.1) (fun r j => a + 1 ≤ r ∧ r ≤ a + 2 ∧ j = l) := (m1.trans m2).mono (fun r j z => by omega)
    have mm : Mf w (sv (sv (sv w (a + 1) l x.1) (a + 2) l x.2.1) (a + 3) l x.2.2) (fun r j => a + 1 ≤ r ∧ r ≤ a + 3 ∧ j = l) := (m12.trans m3).mono (fun r j z => by omega)
    have E : SeSh w a := ⟨⟨a1, a2, a3, a4, a5⟩, c1, c2, c3, c4, c5⟩
    have P3 : StL (sv (sv (sv w (a + 1) l x.1) (a + 2) l x.2.1) (a + 3) l x.2.2) a 0 (P ++ [x]) := by
      refine StL.snoc hx P 0 (StL.mf mm P 0 hP (fun r j r0 r1 j0 j1 => by omega)) ?_ ?_ ?_
      · rw [show 0 + (P.length : Int) = l by omega, m3.gvE (by omega), m2.gvE (by omega), gvSS]
      · rw [show 0 + (P.length : Int) = l by omega, m3.gvE (by omega), gvSS]
      · rw [show 0 + (P.length : Int) = l by omega, gvSS]
    have ap : P ++ x :: Q = (P ++ [x]) ++ Q := by simp
    have R3 : SeR (sv (sv (sv w (a + 1) l x.1) (a + 2) l x.2.1) (a + 3) l x.2.2) a' c ((P ++ [x]) ++ Q) := by
      rw [← ap]
      exact hR0.mf mm (fun j j0 j1 => by omega) (fun r j r0 r1 => by omega)
    obtain ⟨w', g1, g2, g3⟩ := l_seCopy ho ha Q (P ++ [x]) _ (hW.eq (mm.eqO (fun r j r0 r1 => by omega))) (E.mf mm (fun j j0 j1 => by omega)) R3 P3
    rw [show (((P ++ [x]).length : Nat) : Int) = l + 1 by rw [List.length_append]; show ((P.length + 1 : Nat) : Int) = l + 1; omega] at g1
    rw [ap]
    refine ⟨w', Rn.cut ?_ g1, g2, (mm.mono (Q := snP a) (fun r j z => by omega)).tr g3⟩
    have k1 : kd (sv w (a + 1) l x.1) a = 7 := a1
    have k1' : kd (sv w (a + 1) l x.1) a' = 7 := a1'
    have k2 : kd (sv (sv w (a + 1) l x.1) (a + 2) l x.2.1) a = 7 := a1
    have k2' : kd (sv (sv w (a + 1) l x.1) (a + 2) l x.2.1) a' = 7 := a1'
    have y1 : gv (sv w (a + 1) l x.1) a 1 = a + 2 := by rw [m1.gvE (by omega)]; exact a3
    have y1' : gv (sv w (a + 1) l x.1) a' 1 = a' + 2 := by rw [m1.gvE (by omega)]; exact a3'
    have z1 : gv (sv w (a + 1) l x.1) (a' + 2) l = x.2.1 := by rw [m1.gvE (by omega)]; exact e2
    have y2 : gv (sv (sv w (a + 1) l x.1) (a + 2) l x.2.1) a 2 = a + 3 := by rw [m12.gvE (by omega)]; exact a4
    have y2' : gv (sv (sv w (a + 1) l x.1) (a + 2) l x.2.1) a' 2 = a' + 3 := by rw [m12.gvE (by omega)]; exact a4'
    have z2 : gv (sv (sv w (a + 1) l x.1) (a + 2) l x.2.1) (a' + 3) l = x.2.2 := by rw [m12.gvE (by omega)]; exact e3
    have i1 : kd (sv w (a + 1) l x.1) (a + 2) = 20 ∧ ln (sv w (a + 1) l x.1) (a + 2) = 40 := c2
    have i1' : kd (sv w (a + 1) l x.1) (a' + 2) = 20 ∧ ln (sv w (a + 1) l x.1) (a' + 2) = 40 := c2'
    have i2 : kd (sv (sv w (a + 1) l x.1) (a + 2) l x.2.1) (a + 3) = 20 ∧ ln (sv (sv w (a + 1) l x.1) (a + 2) l x.2.1) (a + 3) = 40 := c3
    have i2' : kd (sv (sv w (a + 1) l x.1) (a + 2) l x.2.1) (a' + 3) = 20 ∧ ln (sv (sv w (a + 1) l x.1) (a + 2) l x.2.1) (a' + 3) = 40 := c3'
    rw [eX7_copyFrom_2, if_pos a1', b2, if_pos (by omega), if_pos (by omega), if_pos a1, if_pos a1', a2', a2, if_pos ⟨by omega, l0, by omega⟩, e1, if_pos ⟨Or.inr (Or.inr (Or.inr ⟨c1.1, kx, by omega⟩)), l0, by omega⟩, wl_eq, if_pos k1, if_pos k1', y1', if_pos ⟨i1'.1, l0, by omega⟩, y1, if_pos ⟨⟨i1.1, by omega⟩, l0, by omega⟩, z1, wl_eq, if_pos k2, if_pos k2', y2', if_pos ⟨i2'.1, l0, by omega⟩, y2, if_pos ⟨⟨i2.1, by omega⟩, l0, by omega⟩, z2, wl_eq, w32_eq (by omega) (by omega)]
theorem t_seCopy {a a' R : Int} {b : Bool} {f : Sb} (ho : a + 4 < a' ∨ a' + 4 < a) (ha : 25 ≤ a) (hW : WordI w) (hE : SeSh w a) (hK : SeK w a' R b f) : ∃ w', Ex pro (d + 1) 66 w [rV a, rV a'] = some (none, w') ∧ SeK w' a R b f ∧ SeSh w' a ∧ Mf w w' (snP a) := by
  obtain ⟨c, L, h1, h2, h3⟩ := hK
  obtain ⟨w', g1, g2, g3⟩ := l_seCopy (d := d) ho ha L [] w hW hE h1 trivial
  refine ⟨w', xX7_copyFrom (Rn.cut ?_ g1), ⟨c, L, g2, h2, h3⟩, g2.1, g3⟩
  rw [eX7_copyFrom_0]
  rfl
/-- the two arrays of images -/
def ImSh (w : sW) : Prop := (gv w 32 9 = 87 ∧ kd w 87 = 25 ∧ ln w 87 = 2) ∧ gv w 32 10 = 88 ∧ kd w 88 = 26 ∧ ln w 88 = 2
/-- image k: nothing, or a room and a sentence -/
def ImC (w : sW) (k : Int) (e : Bool) (B : Rm) (b : Bool) (f : Sb) : Prop := (e = false → gv w 87 k = 0 ∧ gv w 88 k = 0) ∧ (e = true → gv w 87 k ≠ 0 ∧ gv w 88 k ≠ 0 ∧ StI w (gv w 87 k) B ∧ SeK w (gv w 88 k) B.1 b f)
theorem ow87 (w : sW) {k : Int} (h : 0 ≤ k ∧ k < 2) : ow w (8 + k) = gv w 87 k := by
  unfold ow
  rw [if_neg (by omega), if_pos (by omega)]
  congr 1
  omega
theorem ow88 (w : sW) {k : Int} (h : 0 ≤ k ∧ k < 2) : ow w (10 + k) = gv w 88 k := by
  unfold ow
  rw [if_neg (by omega), if_neg (by omega)]
  congr 1
  omega
abbrev imP (w : sW) (k r j : Int) : Prop := ((r = 87 ∨ r = 88) ∧ j = k) ∨ (gv w 87 k ≠ 0 ∧ gv w 87 k ≤ r ∧ r ≤ gv w 87 k + 16) ∨ (gv w 88 k ≠ 0 ∧ gv w 88 k ≤ r ∧ r ≤ gv w 88 k + 4)
theorem im_ow {w' : sW} {k : Int} (hk : 0 ≤ k ∧ k < 2) (b : BkO w) (hn : 108 ≤ nx w) (g : Ag w w' (imP w k)) {i : Int} (hi : 0 ≤ i ∧ i < 12) (h8 : i ≠ 8 + k) (h10 : i ≠ 10 + k) : ow w' i = ow w i := by
  have b8 := b.1 (8 + k) (by omega) (by omega)
  have b10 := b.1 (10 + k) (by omega) (by omega)
  rw [ow87 w hk] at b8
  rw [ow88 w hk] at b10
  unfold ow
  by_cases c : i < 8
  · rw [if_pos c, if_pos c, g.gvE (by omega) (by omega) (by omega)]
  · rw [if_neg c, if_neg c]
    by_cases c2 : i < 10
    · rw [if_pos c2, if_pos c2, g.gvE (by omega) (by omega) (by omega)]
    · rw [if_neg c2, if_neg c2, g.gvE (by omega) (by omega) (by omega)]
theorem im_dis {k : Int} (hk : 0 ≤ k ∧ k < 2) (b : BkO w) {i : Int} (hi : 0 ≤ i ∧ i < 12) (h8 : i ≠ 8 + k) (h10 : i ≠ 10 + k) (hz : ow w i ≠ 0) : (108 ≤ ow w i ∧ ow w i + sz i < nx w) ∧ ∀ r j, ow w i ≤ r → r ≤ ow w i + sz i → ¬ imP w k r j := by
  have bi := b.1 i hi.1 hi.2
  have z8 : sz (8 + k) = 16 := if_pos (by omega)
  have z10 : sz (10 + k) = 4 := if_neg (by omega)
  have d8 := b.2 i (8 + k) hi.1 hi.2 (by omega) (by omega) h8
  have d10 := b.2 i (10 + k) hi.1 hi.2 (by omega) (by omega) h10
  rw [ow87 w hk, z8] at d8
  rw [ow88 w hk, z10] at d10
  refine ⟨by omega, fun r j r0 r1 z => ?_⟩
  omega
theorem blk_up {w' : sW} {k : Int} (hk : 0 ≤ k ∧ k < 2) (b : BkO w) (s : BkS w) (hn : 108 ≤ nx w) (g : Ag w w' (imP w k)) (e8 : (gv w 87 k ≠ 0 ∧ gv w' 87 k = gv w 87 k) ∨ (nx w ≤ gv w' 87 k ∧ gv w' 87 k + 16 < nx w')) (e10 : (gv w 88 k ≠ 0 ∧ gv w' 88 k = gv w 88 k) ∨ (nx w ≤ gv w' 88 k ∧ gv w' 88 k + 4 < nx w')) (dis : gv w' 87 k + 16 < gv w' 88 k ∨ gv w' 88 k + 4 < gv w' 87 k) (S8 : StSh w' (gv w' 87 k)) (S10 : SeSh w' (gv w' 88 k)) : BkO w' ∧ BkS w' := by
  have n := g.1
  have z8 : sz (8 + k) = 16 := if_pos (by omega)
  have z10 : sz (10 + k) = 4 := if_neg (by omega)
  have o := fun i (hi : 0 ≤ i ∧ i < 12) (h8 : i ≠ 8 + k) (h10 : i ≠ 10 + k) => im_ow hk b hn g hi h8 h10
  have b8 := b.1 (8 + k) (by omega) (by omega)
  have b10 := b.1 (10 + k) (by omega) (by omega)
  rw [ow87 w hk, z8] at b8
  rw [ow88 w hk, z10] at b10
  have di : ∀ i, 0 ≤ i → i < 12 → i ≠ 8 + k → i ≠ 10 + k → ow w i = 0 ∨ ((ow w i + sz i < gv w' 87 k ∨ gv w' 87 k + 16 < ow w i) ∧ (ow w i + sz i < gv w' 88 k ∨ gv w' 88 k + 4 < ow w i)) := fun i i0 i1 h8 h10 => by
    have bi := b.1 i i0 i1
    have d8 := b.2 i (8 + k) i0 i1 (by omega) (by omega) h8
    have d10 := b.2 i (10 + k) i0 i1 (by omega) (by omega) h10
    rw [ow87 w hk, z8] at d8
    rw [ow88 w hk, z10] at d10
    omega
  refine ⟨⟨fun i i0 i1 => ?_, fun i j i0 i1 j0 j1 ij => ?_⟩, fun i i0 i1 => ?_, fun i i0 i1 => ?_⟩
  · by_cases h8 : i = 8 + k
    · rw [h8, ow87 w' hk, z8]; omega
    · by_cases h10 : i = 10 + k
      · rw [h10, ow88 w' hk, z10]; omega
      · rw [o i ⟨i0, i1⟩ h8 h10]
        have := b.1 i i0 i1
        omega
  · by_cases h8 : i = 8 + k
    · rw [h8, ow87 w' hk, z8]
      by_cases j10 : j = 10 + k
      · rw [j10, ow88 w' hk, z10]; omega
      · have := di j j0 j1 (by omega) j10
        rw [o j ⟨j0, j1⟩ (by omega) j10]; omega
    · by_cases h10 : i = 10 + k
      · rw [h10, ow88 w' hk, z10]
        by_cases j8 : j = 8 + k
        · rw [j8, ow87 w' hk, z8]; omega
        · have := di j j0 j1 j8 (by omega)
          rw [o j ⟨j0, j1⟩ j8 (by omega)]; omega
      · have di' := di i i0 i1 h8 h10
        rw [o i ⟨i0, i1⟩ h8 h10]
        by_cases j8 : j = 8 + k
        · rw [j8, ow87 w' hk, z8]; omega
        · by_cases j10 : j = 10 + k
          · rw [j10, ow88 w' hk, z10]; omega
          · rw [o j ⟨j0, j1⟩ j8 j10]
            exact b.2 i j i0 i1 j0 j1 ij
  · by_cases h8 : i = 8 + k
    · rw [h8, ow87 w' hk]; exact Or.inr S8
    · rw [o i ⟨i0, by omega⟩ h8 (by omega)]
      rcases s.1 i i0 i1 with y | y
      · exact Or.inl y
      · have zz : sz i = 16 := if_pos (by omega)
        have y32 := y.2.2.2.2.2.2
        have dd := im_dis hk b (i := i) ⟨i0, by omega⟩ h8 (by omega) (by omega)
        rw [zz] at dd
        exact Or.inr (y.eq (g.eqO (by omega) (by omega) dd.2))
  · by_cases h10 : i = 10 + k
    · rw [h10, ow88 w' hk]; exact Or.inr S10
    · rw [o i ⟨by omega, i1⟩ (by omega) h10]
      rcases s.2 i i0 i1 with y | y
      · exact Or.inl y
      · have zz : sz i = 4 := if_neg (by omega)
        have y32 := y.2.2.2.2.2
        have dd := im_dis hk b (i := i) ⟨by omega, i1⟩ (by omega) h10 (by omega)
        rw [zz] at dd
        exact Or.inr (y.eq (g.eqO (by omega) (by omega) dd.2))
theorem HsI.im {w' : sW} {k hk : Int} {H : Int → Rm} (h : HsI w hk H) (hk2 : 0 ≤ k ∧ k < 2) (b : BkO w) (hn : 108 ≤ nx w) (g : Ag w w' (imP w k)) : HsI w' hk H := by
  have b8 := b.1 (8 + k) (by omega) (by omega)
  have b10 := b.1 (10 + k) (by omega) (by omega)
  rw [ow87 w hk2] at b8
  rw [ow88 w hk2] at b10
  obtain ⟨⟨k1, k2, k3, k4⟩, g2, g3, ol, g4, g5, g6⟩ := h
  refine ⟨⟨by rw [g.kdE (by omega) (by omega)]; exact k1, by rw [g.gvE (by omega) (by omega) (by omega)]; exact k2, by rw [g.kdE (by omega) (by omega)]; exact k3, by rw [g.lnE (by omega) (by omega)]; exact k4⟩, by rw [g.gvE (by omega) (by omega) (by omega)]; exact g2, g3, ol, by rw [g.gvE (by omega) (by omega) (by omega)]; exact g4, g5, fun i i0 i1 => ?_⟩
  have y := g6 i i0 i1
  have e2 : ow w ((ol + i) % 8) = gv w 86 ((ol + i) % 8) := ow8 w (by omega)
  have s2 : sz ((ol + i) % 8) = 16 := if_pos (by omega)
  have dd := im_dis hk2 b (i := (ol + i) % 8) ⟨by omega, by omega⟩ (by omega) (by omega) (by rw [e2]; exact y.1)
  rw [s2, e2] at dd
  rw [g.gvE (by omega) (by omega) (by omega)]
  exact ⟨y.1, y.2.eq (g.eqO (by omega) (by omega) dd.2)⟩
theorem SeK.eq {w' : sW} {a R : Int} {b : Bool} {f : Sb} (h : SeK w a R b f) (e : EqO w w' a (a + 4)) : SeK w' a R b f := by
  obtain ⟨c, L, ⟨h1, h2, h3, h4, h5, h6⟩, h7, h8⟩ := h
  have tr : ∀ (L : List Sp) (i : Int), StL w a i L → StL w' a i L := fun L => by
    induction L with
    | nil => exact fun i h => trivial
    | cons x L ih =>
      intro i h
      exact ⟨⟨by rw [e.gvE (by omega) (by omega)]; exact h.1.1, by rw [e.gvE (by omega) (by omega)]; exact h.1.2.1, by rw [e.gvE (by omega) (by omega)]; exact h.1.2.2⟩, h.2.1, ih (i + 1) h.2.2⟩
  exact ⟨c, L, ⟨h1.eq e, by rw [e.gvE (by omega) (by omega)]; exact h2, h3, by rw [e.gvE (by omega) (by omega)]; exact h4, h5, tr L 0 h6⟩, h7, h8⟩
end SC
