/-! ===== a sentence read by the class: its steps ===== -/
def StL (w : sW) (a : Int) : Int → List Sp → Prop
  | _, [] => True
  | i, x :: L => (gv w (a + 1) i = x.1 ∧ gv w (a + 2) i = x.2.1 ∧ gv w (a + 3) i = x.2.2) ∧ (1 ≤ x.1 ∧ x.1 ≤ 23) ∧ StL w a (i + 1) L
/-- the sentence a has the steps L and c ones -/
def SeR (w : sW) (a c : Int) (L : List Sp) : Prop := SeSh w a ∧ gv w a 4 = (L.length : Int) ∧ (L.length : Int) ≤ 40 ∧ gv w a 5 = c ∧ (0 ≤ c ∧ c ≤ 20) ∧ StL w a 0 L
abbrev snP (a r j : Int) : Prop := (a + 1 ≤ r ∧ r ≤ a + 3) ∨ (r = a ∧ (j = 4 ∨ j = 5))
abbrev seP (a r j : Int) : Prop := rdC' r j ∨ snP a r j
theorem SeSh.mf {w w' : sW} {a : Int} {P : Int → Int → Prop} (h : SeSh w a) (g : Mf w w' P) (h0 : ∀ j, 0 ≤ j → j < 4 → ¬ P a j) : SeSh w' a := by
  obtain ⟨⟨a1, a2, a3, a4, a5⟩, b1, b2, b3, b4, b5⟩ := h
  unfold SeSh
  simp only [g.kdE, g.lnE]
  rw [g.gvE (h0 0 (by omega) (by omega)), g.gvE (h0 1 (by omega) (by omega)), g.gvE (h0 2 (by omega) (by omega)), g.gvE (h0 3 (by omega) (by omega))]
  exact ⟨⟨a1, a2, a3, a4, a5⟩, b1, b2, b3, b4, b5⟩
theorem StL.mf {w w' : sW} {a : Int} {P : Int → Int → Prop} (g : Mf w w' P) : ∀ (L : List Sp) (i : Int), StL w a i L → (∀ r j, a + 1 ≤ r → r ≤ a + 3 → i ≤ j → j < i + L.length → ¬ P r j) → StL w' a i L
  | [], i, h, hp => trivial
  | x :: L, i, h, hp => by
    have hl : ((x :: L).length : Int) = (L.length : Int) + 1 := by rw [List.length_cons]; omega
    refine ⟨⟨?_, ?_, ?_⟩, h.2.1, StL.mf g L (i + 1) h.2.2 (fun r j r0 r1 j0 j1 => hp r j r0 r1 (by omega) (by omega))⟩
    · rw [g.gvE (hp _ _ (by omega) (by omega) (by omega) (by omega))]; exact h.1.1
    · rw [g.gvE (hp _ _ (by omega) (by omega) (by omega) (by omega))]; exact h.1.2.1
    · rw [g.gvE (hp _ _ (by omega) (by omega) (by omega) (by omega))]; exact h.1.2.2
theorem StL.snoc {w : sW} {a : Int} {x : Sp} (hx : 1 ≤ x.1 ∧ x.1 ≤ 23) : ∀ (L : List Sp) (i : Int), StL w a i L → gv w (a + 1) (i + L.length) = x.1 → gv w (a + 2) (i + L.length) = x.2.1 → gv w (a + 3) (i + L.length) = x.2.2 → StL w a i (L ++ [x])
  | [], i, h, e1, e2, e3 => by
    rw [show i + (([] : List Sp).length : Int) = i by simp] at e1 e2 e3
    exact ⟨⟨e1, e2, e3⟩, hx, trivial⟩
  | y :: L, i, h, e1, e2, e3 => by
    have hl : i + ((y :: L).length : Int) = i + 1 + (L.length : Int) := by rw [List.length_cons]; omega
    rw [hl] at e1 e2 e3
    exact ⟨h.1, h.2.1, StL.snoc hx L (i + 1) h.2.2 e1 e2 e3⟩
theorem SeR.mf {w w' : sW} {a c : Int} {L : List Sp} {P : Int → Int → Prop} (h : SeR w a c L) (g : Mf w w' P) (h0 : ∀ j, 0 ≤ j → j ≤ 5 → ¬ P a j) (h1 : ∀ r j, a + 1 ≤ r → r ≤ a + 3 → ¬ P r j) : SeR w' a c L := by
  obtain ⟨b1, b2, b3, b4, b5, b6⟩ := h
  exact ⟨b1.mf g (fun j j0 j1 => h0 j j0 (by omega)), by rw [g.gvE (h0 4 (by omega) (by omega))]; exact b2, b3, by rw [g.gvE (h0 5 (by omega) (by omega))]; exact b4, b5, StL.mf g L 0 b6 (fun r j r0 r1 _ _ => h1 r j r0 r1)⟩
theorem WordI.k30 {w : sW} (h : WordI w) {W : Int} (hW : 1 ≤ W ∧ W ≤ 23) : kd w W = 30 := by
  have := (h.2 (W - 1) (by omega) (by omega)).2.1
  rw [show W - 1 + 1 = W by omega] at this
  exact this
theorem WordI.srt {w : sW} (h : WordI w) {W : Int} (hW : 1 ≤ W ∧ W ≤ 23) : gv w W 1 = srt (W - 1) := by
  have := (h.2 (W - 1) (by omega) (by omega)).2.2.2.1
  rw [show W - 1 + 1 = W by omega] at this
  exact this
section SR
variable {d : Nat} {w : sW} {t : Int → Int} {n most : Int} {a c : Int} {L : List Sp}
theorem t_addStep (h : SeR w a c L) {W s v : Int} (kW : kd w W = 30) (hW : 1 ≤ W ∧ W ≤ 23) : ∃ w' L', Ex pro (d + 1) 71 w [rV a, rV W, iV s, iV v] = some (none, w') ∧ SeR w' a c L' ∧ Mf w w' (snP a) ∧ ((L.length : Int) < 40 → L' = L ++ [(W, s, v)]) := by
  obtain ⟨⟨⟨a1, a2, a3, a4, a5⟩, b1, b2, b3, b4, b5⟩, c1, c2, c3, c4, c5⟩ := h
  have S0 : SeSh w a := ⟨⟨a1, a2, a3, a4, a5⟩, b1, b2, b3, b4, b5⟩
  generalize hl : (L.length : Int) = l at c1 c2
  have l0 : 0 ≤ l := by omega
  by_cases z : l < 40
  · have m1 := Mf.svI w (a + 1) l W
    have m2 := Mf.svI (sv w (a + 1) l W) (a + 2) l s
    have m3 := Mf.svI (sv (sv w (a + 1) l W) (a + 2) l s) (a + 3) l v
    have m4 := Mf.svI (sv (sv (sv w (a + 1) l W) (a + 2) l s) (a + 3) l v) a 4 (l + 1)
    have mm : Mf w (sv (sv (sv (sv w (a + 1) l W) (a + 2) l s) (a + 3) l v) a 4 (l + 1)) (fun r j => (a + 1 ≤ r ∧ r ≤ a + 3 ∧ j = l) ∨ (r = a ∧ j = 4)) := (m1.trans (m2.trans (m3.trans m4))).mono (fun r j z => by omega)
    refine ⟨_, L ++ [(W, s, v)], xX7_addStep (Rn.ret ?_), ⟨S0.mf mm (fun j j0 j1 => by omega), ?_, ?_, by rw [mm.gvE (by omega)]; exact c3, c4, ?_⟩, mm.mono (fun r j z => by omega), fun _ => rfl⟩
    · have k1 : kd (sv w (a + 1) l W) a = 7 := a1
      have k2 : kd (sv (sv w (a + 1) l W) (a + 2) l s) a = 7 := a1
      have k3 : kd (sv (sv (sv w (a + 1) l W) (a + 2) l s) (a + 3) l v) a = 7 := a1
      have y1 : gv (sv w (a + 1) l W) a 1 = a + 2 := by rw [m1.gvE (by omega)]; exact a3
      have y14 : gv (sv w (a + 1) l W) a 4 = l := by rw [m1.gvE (by omega)]; exact c1
      have y2 : gv (sv (sv w (a + 1) l W) (a + 2) l s) a 2 = a + 3 := by rw [m2.gvE (by omega), m1.gvE (by omega)]; exact a4
      have y24 : gv (sv (sv w (a + 1) l W) (a + 2) l s) a 4 = l := by rw [m2.gvE (by omega)]; exact y14
      have y34 : gv (sv (sv (sv w (a + 1) l W) (a + 2) l s) (a + 3) l v) a 4 = l := by rw [m3.gvE (by omega)]; exact y24
      have i1 : kd (sv w (a + 1) l W) (a + 2) = 20 := b2.1
      have j1 : ln (sv w (a + 1) l W) (a + 2) = 40 := b2.2
      have i2 : kd (sv (sv w (a + 1) l W) (a + 2) l s) (a + 3) = 20 := b3.1
      have j2 : ln (sv (sv w (a + 1) l W) (a + 2) l s) (a + 3) = 40 := b3.2
      rw [eX7_addStep_0, if_pos a1, c1, if_pos z, if_pos a1, if_pos a1, a2, if_pos ⟨Or.inr (Or.inr (Or.inr ⟨b1.1, kW, by omega⟩)), l0, by rw [b1.2]; exact z⟩, wl_eq, if_pos k1, if_pos k1, y1, y14, if_pos ⟨⟨i1, by omega⟩, l0, by rw [j1]; exact z⟩, wl_eq, if_pos k2, if_pos k2, y2, y24, if_pos ⟨⟨i2, by omega⟩, l0, by rw [j2]; exact z⟩, wl_eq, if_pos k3, if_pos k3, y34, w32_eq (by omega) (by omega), wl_eq]
    · rw [gvSS, List.length_append]
      show l + 1 = ((L.length + 1 : Nat) : Int)
      omega
    · rw [List.length_append]
      show ((L.length + 1 : Nat) : Int) ≤ 40
      omega
    · refine StL.snoc (x := (W, s, v)) hW L 0 (StL.mf mm L 0 c5 (fun r j r0 r1 j0 j1 => by omega)) ?_ ?_ ?_
      · rw [show 0 + (L.length : Int) = l by omega, m4.gvE (by omega), m3.gvE (by omega), m2.gvE (by omega), gvSS]
      · rw [show 0 + (L.length : Int) = l by omega, m4.gvE (by omega), m3.gvE (by omega), gvSS]
      · rw [show 0 + (L.length : Int) = l by omega, m4.gvE (by omega), gvSS]
  · refine ⟨w, L, xX7_addStep (Rn.ret ?_), ⟨S0, by omega, by omega, c3, c4, c5⟩, Mf.refl _ _, fun y => by omega⟩
    rw [eX7_addStep_0, if_pos a1, c1, if_neg z]
theorem t_stC {S : Ts} (h : RS w t n most S) : ∃ w', Ex pro (d + 3) 24 w [rV 34] = some (some (iV (stC t n most S).2), w') ∧ RS w' t n most (stC t n most S).1 ∧ Mf w w' rdC' := by
  obtain ⟨h1, h2, h3, h4⟩ := h
  unfold stC
  by_cases z : S.1 = 0
  · rw [if_pos z]
    rw [z] at h2
    by_cases y : atC t n most S.2.2
    · rw [if_pos y]
      have ti := tk_in (t := t) (n := n) (most := most) (p := S.2.2) (by have := y.1; omega)
      obtain ⟨w', a1, a2, a3, a4, a5⟩ := t_cmpY (d := d) h3 h1 h2 h4 y
      exact ⟨w', a1, ⟨a2, a3, a4, by show 0 ≤ tkT t n most S.2.2; omega⟩, a5⟩
    · rw [if_neg y]
      obtain ⟨w', a1, a2, a3, a4, a5⟩ := t_cmpN (d := d) h3 h1 h2 y
      exact ⟨w', a1, ⟨a2, a3, a4, h4⟩, a5⟩
  · rw [if_neg z]
    exact ⟨w, t_cmpF h1 h2 z, ⟨h1, h2, h3, h4⟩, Mf.refl _ _⟩
theorem saP_W {A : Rm} (W p : Int) : (saP t n most A W p).2.1 = W := by
  unfold saP
  split
  · rfl
  · split <;> rfl
theorem RS.sn {S : Ts} {w' : sW} (h : RS w t n most S) (g : Mf w w' (snP a)) (ha : 70 ≤ a) : RS w' t n most S := h.mf g (fun j => by omega) (fun j => by omega) (fun r j r0 r1 => by omega)
theorem SeR.rd {w' : sW} (h : SeR w a c L) (g : Mf w w' rdC') (ha : 70 ≤ a) : SeR w' a c L := h.mf g (fun j j0 j1 => by omega) (fun r j r0 r1 => by omega)
/-- readPlain -/
theorem t_plain {q p W : Int} {A : Rm} (h : RS w t n most (0, 0, p)) (hS : StI w q A) (hq : q = 36 ∨ q = 53) (hE : SeR w a c L) (ha : 70 ≤ a) (hW : 15 ≤ W ∧ W ≤ 23) (hl : (L.length : Int) < 40) : ∃ w', Ex pro (d + 4) 70 w [rV a, rV 34, rV q, rV W] = some (none, w') ∧ RS w' t n most (saP t n most A W p).1 ∧ SeR w' a c (L ++ [(saP t n most A W p).2]) ∧ Mf w w' (seP a) := by
  have k4 := h.1.1.1.1
  have k7 := hE.1.1.1
  unfold saP
  by_cases c1 : W = 15 ∨ W = 16
  · rw [if_pos c1]
    obtain ⟨w', L', a1, a2, a3, a4⟩ := t_addStep (d := d + 2) hE (s := 0) (v := 0) (h.2.2.1.k30 (by omega)) (W := W) (by omega)
    rw [a4 hl] at a2
    refine ⟨w', xX7_readPlain (Rn.ret ?_), h.sn a3 ha, a2, a3.mono (fun r j z => Or.inr z)⟩
    rw [eX7_readPlain_0, if_pos (by omega)]
    by_cases y : W = 15
    · rw [if_pos y, if_pos k7, a1]
      simp only [bN]
    · rw [if_neg y, if_pos (by omega), if_pos (by omega), if_pos k7, a1]
      simp only [bN]
  · rw [if_neg c1]
    by_cases c2 : W = 17 ∨ W = 18
    · rw [if_pos c2]
      obtain ⟨w1, b1, b2, b3⟩ := t_stR (d := d) h hS hq (-1)
      have E1 := hE.rd b3 ha
      obtain ⟨w', L', a1, a2, a3, a4⟩ := t_addStep (d := d + 2) E1 (s := 0) (v := (stR t n most A (0, 0, p) (-1)).2) (b2.2.2.1.k30 (by omega)) (W := W) (by omega)
      rw [a4 hl] at a2
      refine ⟨w', xX7_readPlain (Rn.ret ?_), b2.sn a3 ha, a2, b3.trans a3⟩
      have k71 := E1.1.1.1
      rw [eX7_readPlain_0, if_pos (by omega), if_neg (by omega), if_pos (by omega), if_neg (by omega), if_pos (by omega)]
      by_cases y : W = 17
      · rw [if_pos y, if_pos k4, b1]
        simp only [bI]
        rw [if_pos k71, a1]
        simp only [bN]
      · rw [if_neg y, if_pos (by omega), if_pos (by omega), if_pos k4, b1]
        simp only [bI]
        rw [if_pos k71, a1]
        simp only [bN]
    · rw [if_neg c2]
      obtain ⟨w1, b1, b2, b3⟩ := t_stC (d := d) h
      obtain ⟨w2, e1, e2, e3⟩ := t_stN (d := d) b2 0 999
      have m2 := b3.tr e3
      have E2 := hE.rd m2 ha
      obtain ⟨w', L', a1, a2, a3, a4⟩ := t_addStep (d := d + 2) E2 (s := (stC t n most (0, 0, p)).2) (v := (stN t n most (stC t n most (0, 0, p)).1 0 999).2) (e2.2.2.1.k30 (by omega)) (W := W) (by omega)
      rw [a4 hl] at a2
      refine ⟨w', xX7_readPlain (Rn.ret ?_), e2.sn a3 ha, a2, m2.trans a3⟩
      have k71 := E2.1.1.1
      rw [eX7_readPlain_0, if_pos (by omega), if_neg (by omega), if_pos (by omega), if_neg (by omega), if_pos (by omega), if_neg (by omega), if_pos (by omega), if_neg (by omega), if_pos k4, b1]
      simp only [bI]
      rw [if_pos b2.1.1.1.1, e1]
      simp only []
      rw [if_pos k71, a1]
      simp only [bN]
theorem RS.z {S : Ts} (h : RS w t n most S) (z : S.1 = 0) (z' : S.2.1 = 0) : RS w t n most (0, 0, S.2.2) := by
  obtain ⟨f, pl, p⟩ := S
  change f = 0 at z
  change pl = 0 at z'
  subst z; subst z'
  exact h
end SR
