/-! ===== all lines of a book: the class reads them ===== -/
abbrev bkQ (r j : Int) : Prop := bkP r j ∨ (r = 80 ∧ j = 4)
section BL3
variable {d : Nat} {w : sW} {t : Int → Int} {n most : Int}
theorem l_blF {q i : Int} {S : Ts} (h : RS w t n most S) (z : S.1 ≠ 0) : Rn (Ex pro (d + 5)) mX0_readLines (7, [some (rV 80), some (rV 34), some (rV q), some (iV i)], [], w) (none, w) := by
  refine Rn.ret ?_
  rw [eX0_readLines_7]
  by_cases y : 40 < i
  · rw [if_pos y]
  · rw [if_neg y, if_pos h.1.1.1.1, t_goesOn h.1 h.2.1]
    simp only [bI, ite10]
    rw [if_neg (fun u => z u.1)]
theorem BoI.add {c k a1 a2 a3 : Int} {L : Int → Ln} (h : BoI w c L) (hc : c < 40) (e : gv w 81 c = k ∧ gv w 82 c = a1 ∧ gv w 83 c = a2 ∧ gv w 84 c = a3) : BoI (sv w 80 4 (c + 1)) (c + 1) (addL L c (k, a1, a2, a3)) := by
  have m1 := Mf.svI w 80 4 (c + 1)
  obtain ⟨b1, b2, b3, b4, b5, b6, b7, b8⟩ := h
  refine ⟨⟨b1.1, by rw [m1.gvE (by omega)]; exact b1.2.1, by rw [m1.gvE (by omega)]; exact b1.2.2.1, by rw [m1.gvE (by omega)]; exact b1.2.2.2.1, by rw [m1.gvE (by omega)]; exact b1.2.2.2.2⟩, b2, b3, b4, b5, gvSS _ _ _ _, by omega, fun i i0 i1 => ?_⟩
  rw [m1.gvE (by omega), m1.gvE (by omega), m1.gvE (by omega), m1.gvE (by omega)]
  unfold addL
  by_cases z : i = c
  · rw [if_pos z, z]; exact e
  · rw [if_neg z]; exact b8 i i0 (by omega)
theorem l_blines {q : Int} {A : Rm} (hq : q = 36 ∨ q = 53) : ∀ (f : Nat) (i p c : Int) (w : sW) (L : Int → Ln), i + f = 41 → 0 ≤ i → RS w t n most (0, 0, p) → StI w q A → BoI w c L → ∃ w', Rn (Ex pro (d + 5)) mX0_readLines (7, [some (rV 80), some (rV 34), some (rV q), some (iV i)], [], w) (none, w') ∧ (∃ p', RS w' t n most ((bkF t n most A f p c L).1, (bkF t n most A f p c L).2.1, p')) ∧ StI w' q A ∧ BoI w' (bkF t n most A f p c L).2.2.1 (bkF t n most A f p c L).2.2.2 ∧ Mf w w' bkQ
  | 0, i, p, c, w, L, hi, hi0, h, hS, hB => by
    refine ⟨w, Rn.ret ?_, ⟨p, h⟩, hS, hB, Mf.refl _ _⟩
    rw [eX0_readLines_7, if_pos (by omega)]
  | f + 1, i, p, c, w, L, hi, hi0, h, hS, hB => by
    have k4 := h.1.1.1.1
    have wr := tkW_rg t n most p
    have w9 : gv w 34 9 = tkW t n most p := h.1.2.2.2.2.2.2.2
    unfold bkF
    by_cases kz : tkK t n most p = 0
    · rw [if_pos kz]
      refine ⟨w, Rn.ret ?_, ⟨p, h⟩, hS, hB, Mf.refl _ _⟩
      rw [eX0_readLines_7, if_neg (by omega), if_pos k4, t_goesOn h.1 h.2.1]
      simp only [bI, ite10]
      rw [if_neg (fun u => u.2 kz)]
    · rw [if_neg kz]
      have fail : ∀ e, e ≠ 0 → ∃ w', Ex pro (d + 5) 20 w [rV 34, iV e] = some (none, w') ∧ RS w' t n most (e, tkP t n most p, p) ∧ StI w' q A ∧ BoI w' c L ∧ Mf w w' bkQ ∧ Rn (Ex pro (d + 5)) mX0_readLines (7, [some (rV 80), some (rV 34), some (rV q), some (iV (i + 1))], [], w') (none, w') := fun e he => by
        obtain ⟨w', a1, a2, a3⟩ := t_stF (d := d + 4) h e
        have e2 : stF t n most (0, 0, p) e = (e, tkP t n most p, p) := by unfold stF; rw [if_pos rfl]
        rw [e2] at a2
        exact ⟨w', a1, a2, hS.mf a3 (fun r j r0 r1 => by omega), hB.mf a3 (fun j j0 j1 => by omega) (fun r j r0 r1 r2 => by omega), a3.mono (fun r j z => by omega), l_blF a2 he⟩
      by_cases c0 : tkW t n most p = 0
      · obtain ⟨w', a1, a2, a3, a4, a5, a6⟩ := fail 1 (by omega)
        rw [if_neg (by omega)]
        refine ⟨w', Rn.cut ?_ a6, ⟨p, a2⟩, a3, a4, a5⟩
        rw [eX0_readLines_7, if_neg (by omega), if_pos k4, t_goesOn h.1 h.2.1]
        simp only [bI, ite10]
        rw [if_pos ⟨trivial, kz⟩, if_pos k4, w9, if_pos c0, if_pos k4, a1]
        simp only [bN]
        rw [w32_eq (by omega) (by omega)]
      · have wi := h.2.2.1.2 (tkW t n most p - 1) (by omega) (by omega)
        rw [show tkW t n most p - 1 + 1 = tkW t n most p by omega] at wi
        by_cases cd : 4 ≤ tkW t n most p ∧ tkW t n most p ≤ 11
        · have s1 : gv w (tkW t n most p) 1 = 1 := by rw [wi.2.2.2.1]; unfold srt; rw [if_pos (by omega)]
          rw [if_pos cd]
          by_cases c40 : c < 40
          · rw [if_pos c40]
            obtain ⟨w1, a1, a2, a3, a4, a5⟩ := t_bline (d := d) h hS hq rfl c0 hB c40
            obtain ⟨w2, b1, b2, b3⟩ := t_stS (d := d + 2) a2 59
            have B2 := a3.mf b3 (fun j j0 j1 => by omega) (fun r j r0 r1 r2 => by omega)
            have m3 := Mf.svI w2 80 4 (c + 1)
            have B3 := B2.add c40 (k := tkW t n most p) (a1 := (bkL t n most A (0, 0, tkT t n most p) (tkW t n most p)).2.1) (a2 := (bkL t n most A (0, 0, tkT t n most p) (tkW t n most p)).2.2.1) (a3 := (bkL t n most A (0, 0, tkT t n most p) (tkW t n most p)).2.2.2) ⟨by rw [b3.gvE (by omega)]; exact a4.1, by rw [b3.gvE (by omega)]; exact a4.2.1, by rw [b3.gvE (by omega)]; exact a4.2.2.1, by rw [b3.gvE (by omega)]; exact a4.2.2.2⟩
            have R3 : RS (sv w2 80 4 (c + 1)) t n most (bkS t n most A p) := b2.mf m3 (fun j => by omega) (fun j => by omega) (fun r j r0 r1 => by omega)
            have mm : Mf w (sv w2 80 4 (c + 1)) bkQ := (a5.trans (b3.trans m3)).mono (fun r j z => by omega)
            have S3 := hS.mf mm (fun r j r0 r1 => by omega)
            have c0' := hB.2.2.2.2.2.2.1
            have go : sg (Ex pro (d + 5)) mX0_readLines 2000 7 [some (rV 80), some (rV 34), some (rV q), some (iV i)] [] w = some (.inl (7, [some (rV 80), some (rV 34), some (rV q), some (iV (i + 1))], [], sv w2 80 4 (c + 1))) := by
              rw [eX0_readLines_7, if_neg (by omega), if_pos k4, t_goesOn h.1 h.2.1]
              simp only [bI, ite10]
              rw [if_pos ⟨trivial, kz⟩, if_pos k4, w9, if_neg c0, if_pos k4, if_pos wi.2.1, s1, if_pos rfl, if_pos hB.1.1, hB.2.2.2.2.2.1, if_pos c40, if_pos hB.1.1, a1]
              simp only [bN]
              rw [if_pos a2.1.1.1.1, b1]
              simp only []
              rw [if_pos B2.1.1, if_pos B2.1.1, B2.2.2.2.2.2.1, w32_eq (by omega) (by omega), wl_eq, w32_eq (by omega) (by omega)]
            by_cases e0 : (bkS t n most A p).1 = 0
            · rw [if_pos e0]
              have e1 : bkS t n most A p = (0, 0, (bkS t n most A p).2.2) := Prod.ext e0 (Prod.ext (bkS_z e0) rfl)
              rw [e1] at R3
              obtain ⟨w', g1, g2, g3, g4, g5⟩ := l_blines hq f (i + 1) _ (c + 1) _ _ (by omega) (by omega) R3 S3 B3
              exact ⟨w', Rn.cut go g1, g2, g3, g4, mm.tr g5⟩
            · rw [if_neg e0]
              exact ⟨_, Rn.cut go (l_blF R3 e0), ⟨_, R3⟩, S3, B3, mm⟩
          · obtain ⟨w', a1, a2, a3, a4, a5, a6⟩ := fail 4 (by omega)
            rw [if_neg c40]
            refine ⟨w', Rn.cut ?_ a6, ⟨p, a2⟩, a3, a4, a5⟩
            rw [eX0_readLines_7, if_neg (by omega), if_pos k4, t_goesOn h.1 h.2.1]
            simp only [bI, ite10]
            rw [if_pos ⟨trivial, kz⟩, if_pos k4, w9, if_neg c0, if_pos k4, if_pos wi.2.1, s1, if_pos rfl, if_pos hB.1.1, hB.2.2.2.2.2.1, if_neg c40, if_pos k4, a1]
            simp only [bN]
            rw [w32_eq (by omega) (by omega)]
        · have s1 : ¬ gv w (tkW t n most p) 1 = 1 := by
            rw [wi.2.2.2.1]; unfold srt; rw [if_neg (by omega)]
            split <;> omega
          obtain ⟨w', a1, a2, a3, a4, a5, a6⟩ := fail 1 (by omega)
          rw [if_neg cd]
          refine ⟨w', Rn.cut ?_ a6, ⟨p, a2⟩, a3, a4, a5⟩
          rw [eX0_readLines_7, if_neg (by omega), if_pos k4, t_goesOn h.1 h.2.1]
          simp only [bI, ite10]
          rw [if_pos ⟨trivial, kz⟩, if_pos k4, w9, if_neg c0, if_pos k4, if_pos wi.2.1, if_neg s1, if_pos k4, a1]
          simp only [bN]
          rw [w32_eq (by omega) (by omega)]
end BL3
