/-! ===== a new room, a new sentence ===== -/
def A0 : Rm := (0, 8, fun _ => 0, fun _ => (0, fun _ => 0, 0, fun _ => 0), (0, fun _ => 0))
/-- a room while its rows are made -/
def StN (w : sW) (s i : Int) : Prop := (kd w s = 8 ∧ gv w s 0 = s + 1 ∧ gv w s 1 = s + 2 ∧ gv w s 2 = s + 3) ∧ (gv w s 3 = 0 ∧ gv w s 4 = 8) ∧ (kd w (s + 1) = 24 ∧ ln w (s + 1) = 4) ∧ (kd w (s + 2) = 22 ∧ ln w (s + 2) = 4) ∧ ScI w (s + 3) (0, fun _ => 0) ∧ ∀ r, 0 ≤ r → r < i → gv w (s + 1) r = s + 5 + 3 * r ∧ RowSh w (s + 5 + 3 * r)
section IN
variable {d : Nat} {w : sW}
theorem l_stInit {s : Int} (hs : 32 ≤ s) : ∀ (f : Nat) (i : Int) (w : sW), i + f = 4 → 0 ≤ i → StN w s i → nx w = s + 5 + 3 * i → ∃ w', Rn (Ex pro (d + 1)) mX8_init (38, [some (rV s), some (iV i)], [], w) (none, w') ∧ StN w' s 4 ∧ nx w' = s + 17 ∧ uc w' = uc w + 3 * f ∧ us w' = us w + 756 * f ∧ EqO w w' 0 (s - 1)
  | 0, i, w, hi, hi0, h, hn => by
    refine ⟨w, Rn.ret ?_, ?_, by omega, by omega, by omega, EqO.refl _ _ _⟩
    · rw [eX8_init_38, if_neg (by omega)]
    · rw [show (4 : Int) = i by omega]; exact h
  | f + 1, i, w, hi, hi0, h, hn => by
    obtain ⟨⟨h1, h2, h3, h4⟩, ⟨h5, h6⟩, ⟨h7, h8⟩, ⟨h9, h10⟩, h11, h12⟩ := h
    have e1 : EqO w (al w 5 0 4) 0 (s + 5 + 3 * i - 1) := EqO.al (by omega)
    obtain ⟨w2, a1, a2, a3, a4, a5, a6⟩ := r_init (d := d) (w := al w 5 0 4) (a := s + 5 + 3 * i) (by rw [kdL, if_pos (by omega)]) (by rw [nxL]; omega) (by omega)
    have e2 := e1.trans a6
    have e3 : EqO w2 (sv w2 (s + 1) i (s + 5 + 3 * i)) 0 s := EqO.sv (by omega)
    have e4 : EqO w2 (sv w2 (s + 1) i (s + 5 + 3 * i)) (s + 2) (s + 7 + 3 * i) := EqO.sv (by omega)
    have e5 := (e2.mono (by omega) (show s ≤ s + 5 + 3 * i - 1 by omega)).trans e3
    have e6 := (e2.mono (show (0 : Int) ≤ s + 2 by omega) (Int.le_refl _)).trans (e4.mono (by omega) (by omega))
    obtain ⟨w', b1, b2, b3, b4, b5, b6⟩ := l_stInit hs f (i + 1) (sv w2 (s + 1) i (s + 5 + 3 * i)) (by omega) (by omega) ⟨⟨by rw [e5.kdE (by omega) (by omega)]; exact h1, by rw [e5.gvE (by omega) (by omega)]; exact h2, by rw [e5.gvE (by omega) (by omega)]; exact h3, by rw [e5.gvE (by omega) (by omega)]; exact h4⟩, ⟨by rw [e5.gvE (by omega) (by omega)]; exact h5, by rw [e5.gvE (by omega) (by omega)]; exact h6⟩, ⟨by rw [kdS, e2.kdE (by omega) (by omega)]; exact h7, by rw [lnS, e2.lnE (by omega) (by omega)]; exact h8⟩, ⟨by rw [e6.kdE (by omega) (by omega)]; exact h9, by rw [e6.lnE (by omega) (by omega)]; exact h10⟩, h11.eq (e6.mono (by omega) (by omega)), fun r r0 r1 => by
      by_cases c : r = i
      · subst c
        exact ⟨by rw [gvS, if_pos ⟨rfl, rfl⟩], a2.eq (e4.mono (by omega) (by omega))⟩
      · have := h12 r r0 (by omega)
        exact ⟨by rw [gvS, if_neg (by omega), e2.gvE (by omega) (by omega)]; exact this.1, this.2.eq (e6.mono (by omega) (by omega))⟩⟩ (by rw [nxS]; omega)
    refine ⟨w', Rn.cut ?_ b1, b2, b3, ?_, ?_, ((e5.mono (by omega) (by omega)).trans b6)⟩
    · rw [eX8_init_38, if_pos (by omega), if_pos h1, wl_eq, hn, if_pos (by rw [kdL, if_pos (by omega)]), a1, h2]
      simp only [bN]
      rw [if_pos ⟨Or.inl ⟨by rw [e2.kdE (by omega) (by omega)]; exact h7, a2.1⟩, by omega, by rw [e2.lnE (by omega) (by omega), h8]; omega⟩, wl_eq, w32_eq (by omega) (by omega)]
    · rw [b4, ucS, a4, ucL]; omega
    · rw [b5, usS, a5, usL]; omega
theorem st_init {s : Int} (hs : 32 ≤ s) (hk : kd w s = 8) (hn : nx w = s + 1) (h0 : gv w s 3 = 0) : ∃ w', Ex pro (d + 2) 75 w [rV s] = some (none, w') ∧ StI w' s A0 ∧ nx w' = s + 17 ∧ uc w' = uc w + 16 ∧ us w' = us w + 3234 ∧ EqO w w' 0 (s - 1) := by
  have e1 : EqO w (al w 24 4 4) 0 s := EqO.al (by omega)
  have e2 : EqO (al w 24 4 4) (sv (al w 24 4 4) s 0 (s + 1)) 0 (s - 1) := EqO.sv (by omega)
  have e3 : EqO (sv (al w 24 4 4) s 0 (s + 1)) (al (sv (al w 24 4 4) s 0 (s + 1)) 22 4 4) 0 (s + 1) := EqO.al (by simp only [nxS, nxL]; omega)
  have e4 : EqO (al (sv (al w 24 4 4) s 0 (s + 1)) 22 4 4) (sv (al (sv (al w 24 4 4) s 0 (s + 1)) 22 4 4) s 1 (s + 2)) 0 (s - 1) := EqO.sv (by omega)
  generalize hw4 : sv (al (sv (al w 24 4 4) s 0 (s + 1)) 22 4 4) s 1 (s + 2) = w4 at e4
  have n4 : nx w4 = s + 3 := by rw [← hw4]; simp only [nxS, nxL]; omega
  have u4 : uc w4 = uc w + 2 := by rw [← hw4]; simp only [ucS, ucL]
  have v4 : us w4 = us w + 8 := by rw [← hw4]; simp only [usS, usL]
  have f4 : kd w4 s = 8 ∧ gv w4 s 0 = s + 1 ∧ gv w4 s 1 = s + 2 ∧ gv w4 s 3 = 0 ∧ kd w4 (s + 1) = 24 ∧ ln w4 (s + 1) = 4 ∧ kd w4 (s + 2) = 22 ∧ ln w4 (s + 2) = 4 := by
    rw [← hw4]
    simp only [kdS, kdL, lnS, lnL, gvS, gvL, nxS, nxL, hn, hk, h0]
    grind
  obtain ⟨f41, f42, f43, f44, f45, f46, f47, f48⟩ := f4
  have e5 : EqO w4 (al w4 6 0 2) 0 (s + 2) := EqO.al (by omega)
  obtain ⟨w6, a1, a2, a3, a4, a5, a6⟩ := c_init (d := d) (w := al w4 6 0 2) (a := s + 3) (by rw [kdL, if_pos (by omega)]) (by rw [nxL]; omega) (by omega) (by rw [gvL, if_pos (by omega)])
  have e6 := (e5.trans (a6.mono (by omega) (by omega)))
  have e7 : EqO w6 (sv (sv w6 s 2 (s + 3)) s 4 8) 0 (s - 1) := (EqO.sv (by omega)).trans (EqO.sv (by omega))
  have e8 : EqO w6 (sv (sv w6 s 2 (s + 3)) s 4 8) (s + 1) (s + 4) := (EqO.sv (by omega)).trans (EqO.sv (by omega))
  obtain ⟨w', b1, b2, b3, b4, b5, b6⟩ := l_stInit (d := d) hs 4 0 (sv (sv w6 s 2 (s + 3)) s 4 8) (by omega) (by omega) ⟨⟨by rw [kdS, kdS, e6.kdE (by omega) (by omega)]; exact f41, by rw [gvS, if_neg (by omega), gvS, if_neg (by omega), e6.gvE (by omega) (by omega)]; exact f42, by rw [gvS, if_neg (by omega), gvS, if_neg (by omega), e6.gvE (by omega) (by omega)]; exact f43, by rw [gvS, if_neg (by omega), gvSS]⟩, ⟨by rw [gvS, if_neg (by omega), gvS, if_neg (by omega), e6.gvE (by omega) (by omega)]; exact f44, by rw [gvSS]⟩, ⟨by rw [kdS, kdS, e6.kdE (by omega) (by omega)]; exact f45, by rw [lnS, lnS, e6.lnE (by omega) (by omega)]; exact f46⟩, ⟨by rw [kdS, kdS, e6.kdE (by omega) (by omega)]; exact f47, by rw [lnS, lnS, e6.lnE (by omega) (by omega)]; exact f48⟩, a2.eq (e8.mono (by omega) (by omega)), fun r r0 r1 => by omega⟩ (by rw [nxS, nxS]; omega)
  refine ⟨w', xX8_init (Rn.cut ?_ b1), ?_, b3, ?_, ?_, ?_⟩
  · rw [eX8_init_0]
    simp only [wl_eq]
    rw [hn, show (4 : Int).toNat = 4 from rfl]
    have g1 : kd (al w 24 4 4) s = 8 := by rw [kdL, if_neg (by omega)]; exact hk
    have g2 : nx (sv (al w 24 4 4) s 0 (s + 1)) = s + 2 := by simp only [nxS, nxL]; omega
    have g3 : kd (al (sv (al w 24 4 4) s 0 (s + 1)) 22 4 4) s = 8 := by rw [kdL, if_neg (by omega), kdS]; exact g1
    rw [if_pos hk, if_pos (by decide), if_pos g1, if_pos (by decide), g2, if_pos g3, hw4, n4, if_pos (by rw [kdL, if_pos (by omega)]), a1]
    simp only [bN]
    rw [if_pos (by rw [e6.kdE (by omega) (by omega)]; exact f41), if_pos (by rw [kdS, e6.kdE (by omega) (by omega)]; exact f41)]
  · obtain ⟨⟨h1, h2, h3, h4⟩, ⟨h5, h6⟩, ⟨h7, h8⟩, ⟨h9, h10⟩, h11, h12⟩ := b2
    exact ⟨⟨⟨h1, h2, h3, h4⟩, ⟨h7, h8⟩, fun r r0 r1 => (h12 r r0 r1).1, ⟨h9, h10⟩, h11.1, fun r r0 r1 => (h12 r r0 r1).2, hs⟩, ⟨h5, h6⟩, by decide, by decide, fun r r0 r1 => by have : r < 0 := r1; omega, fun r r0 r1 => by have : r < 0 := r1; omega, h11⟩
  · rw [b4, ucS, ucS, a4, ucL]; omega
  · rw [b5, usS, usS, a5, usL]; omega
  · exact ((e1.mono (by omega) (by omega)).trans (e2.trans ((e3.mono (by omega) (by omega)).trans e4))).trans (((e6.mono (by omega) (by omega)).trans e7).trans b6)
/-- a sentence's cells -/
def SeSh (w : sW) (a : Int) : Prop := (kd w a = 7 ∧ gv w a 0 = a + 1 ∧ gv w a 1 = a + 2 ∧ gv w a 2 = a + 3 ∧ gv w a 3 = a + 4) ∧ (kd w (a + 1) = 27 ∧ ln w (a + 1) = 40) ∧ (kd w (a + 2) = 20 ∧ ln w (a + 2) = 40) ∧ (kd w (a + 3) = 20 ∧ ln w (a + 3) = 40) ∧ (kd w (a + 4) = 23 ∧ ln w (a + 4) = 40) ∧ 32 ≤ a
theorem SeSh.eq {w w' : sW} {a : Int} (h : SeSh w a) (e : EqO w w' a (a + 4)) : SeSh w' a := by
  unfold SeSh at *
  rw [e.kdE (by omega) (by omega), e.gvE (by omega) (by omega), e.gvE (by omega) (by omega), e.gvE (by omega) (by omega), e.gvE (by omega) (by omega), e.kdE (by omega) (by omega), e.lnE (by omega) (by omega), e.kdE (by omega) (by omega), e.lnE (by omega) (by omega), e.kdE (by omega) (by omega), e.lnE (by omega) (by omega), e.kdE (by omega) (by omega), e.lnE (by omega) (by omega)]
  exact h
theorem se_init {s : Int} (hs : 32 ≤ s) (hk : kd w s = 7) (hn : nx w = s + 1) (h4 : gv w s 4 = 0) (h5 : gv w s 5 = 0) : ∃ w', Ex pro (d + 1) 64 w [rV s] = some (none, w') ∧ SeSh w' s ∧ gv w' s 4 = 0 ∧ gv w' s 5 = 0 ∧ nx w' = s + 5 ∧ uc w' = uc w + 4 ∧ us w' = us w + 160 ∧ EqO w w' 0 (s - 1) := by
  refine ⟨sv (al (sv (al (sv (al (sv (al w 27 40 40) s 0 (s + 1)) 20 40 40) s 1 (s + 2)) 20 40 40) s 2 (s + 3)) 23 40 40) s 3 (s + 4), xX7_init (Rn.ret ?_), ?_, ?_, ?_, ?_, ?_, ?_, ?_⟩
  · rw [eX7_init_0]
    simp only [wl_eq, kdS, kdL, nxS, nxL, hn, hk]
    rw [show s + 1 + 1 = s + 2 by omega, show s + 2 + 1 = s + 3 by omega, show s + 3 + 1 = s + 4 by omega, show (40 : Int).toNat = 40 from rfl]
    grind
  · unfold SeSh
    simp only [kdS, kdL, lnS, lnL, gvS, gvL, nxS, nxL, hn, hk]
    grind
  · simp only [gvS, gvL, nxS, nxL, hn, h4]; grind
  · simp only [gvS, gvL, nxS, nxL, hn, h5]; grind
  · simp only [nxS, nxL, hn]; omega
  · simp only [ucS, ucL]
  · simp only [usS, usL]
  · exact ((((EqO.al (by omega)).trans (EqO.sv (by omega))).trans ((EqO.al (by simp only [nxS, nxL]; omega)).trans (EqO.sv (by omega)))).trans ((EqO.al (by simp only [nxS, nxL]; omega)).trans (EqO.sv (by omega)))).trans ((EqO.al (by simp only [nxS, nxL]; omega)).trans (EqO.sv (by omega)))
end IN
