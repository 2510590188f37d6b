/-! ===== the class's room ===== -/
/-- the cells that a text read by the class may change -/
abbrev rdX (q s r j : Int) : Prop := (r = 32 ∧ (j = 1 ∨ j = 3 ∨ j = 4 ∨ j = 13)) ∨ (r = 34 ∧ j ≤ 11) ∨ (q ≤ r ∧ r ≤ q + 16) ∨ (r = 85 ∧ j = 2) ∨ (r = s ∧ (j = 4 ∨ j = 5))
section PRm
variable {d : Nat} {w : sW} {t : Int → Int} {n q q' s hk : Int} {A : Rm} {H : Int → Rm}
theorem p_roomN (h : CD w q A hk H) (hs : SpI w q q') (hT : TpI w 32 0 1 33 t n) (h2 : gv w 32 2 = 34 ∧ kd w 34 = 4) (hW : WordI w) (e : (rmF t n 900 940 0 0 0 E0).1 ≠ 0) : ∃ w', Ex pro (d + 6) 99 w [rV 32] = some (some (iV (w32 (-1 - (rmF t n 900 940 0 0 0 E0).2.1))), w') ∧ CD w' q A hk H ∧ SpI w' q q' ∧ TpI w' 32 0 1 33 t 0 ∧ gv w' 32 13 = (rmF t n 900 940 0 0 0 E0).1 ∧ WordI w' ∧ Mf w w' (fun r j => (r = 32 ∧ (j = 1 ∨ j = 13)) ∨ (r = 34 ∧ j ≤ 11) ∨ (q' ≤ r ∧ r ≤ q' + 16)) := by
  obtain ⟨h1, hq, h8, hH, hO, hB, hn⟩ := h
  obtain ⟨s1, s2, s3⟩ := hs
  obtain ⟨w1, a1, a2, a3, a4, a5⟩ := t_open (d := d + 2) (most := 900) hW h2.2 hT (by omega)
  have S1 : StSh w1 q' := s2.eq (a5.eqO (fun r j r0 r1 => by omega))
  obtain ⟨w2, b1, ⟨p', b2⟩, b3, b4, b5, b6⟩ := t_readLines (d := d) (q := q') (by omega) a2 a3 a4 S1
  have m12 : Mf w w2 (fun r j => (r = 34 ∧ j ≤ 11) ∨ (q' ≤ r ∧ r ≤ q' + 16)) := (a5.trans b6).mono (fun r j z => by omega)
  have c1 := p_closes (d := d + 4) (w := w2) (by rw [m12.kdE]; exact h1.1) (by rw [m12.gvE (by omega)]; exact h2.1) b2.1.1.1 b3
  have m3 := Mf.svI w2 32 1 0
  have m4 := Mf.svI (sv w2 32 1 0) 32 13 (rmF t n 900 940 0 0 0 E0).1
  have m34 : Mf w2 (sv (sv w2 32 1 0) 32 13 (rmF t n 900 940 0 0 0 E0).1) (fun r j => r = 32 ∧ (j = 1 ∨ j = 13)) := (m3.trans m4).mono (fun r j z => by omega)
  have mm : Mf w (sv (sv w2 32 1 0) 32 13 (rmF t n 900 940 0 0 0 E0).1) (fun r j => (r = 32 ∧ (j = 1 ∨ j = 13)) ∨ (r = 34 ∧ j ≤ 11) ∨ (q' ≤ r ∧ r ≤ q' + 16)) := (m12.trans m34).mono (fun r j z => by omega)
  refine ⟨_, xX11_room (Rn.ret ?_), ⟨h1.ag mm.ag hn hq (by omega) (fun r j r0 r1 => by omega), hq, by rw [mm.gvE (by omega)]; exact h8, hH.ag hO mm.ag hn (fun r j z => by omega), hO.ag mm.ag hn (fun r j z => by omega), hB.ag hO mm.ag hn (fun r j z => by omega), by rw [mm.nxE]; exact hn⟩, ⟨by rw [mm.gvE (by omega)]; exact s1, b5.1.eq (m34.eqO (fun r j r0 r1 => by omega)), s3⟩, ?_, gvSS _ _ _ _, b4.eq (m34.eqO (fun r j r0 r1 => by omega)), mm⟩
  · have k9 := h1.1
    have k91 : kd w1 32 = 9 := by rw [a5.kdE]; exact k9
    have k92 : kd w2 32 = 9 := by rw [m12.kdE]; exact k9
    have g2 : gv w1 32 2 = 34 := by rw [a5.gvE (by omega)]; exact h2.1
    have g4 : gv w1 32 4 = q' := by rw [a5.gvE (by omega)]; exact s1
    have k94 : kd (sv (sv w2 32 1 0) 32 13 (rmF t n 900 940 0 0 0 E0).1) 32 = 9 := k92
    have g24 : gv (sv (sv w2 32 1 0) 32 13 (rmF t n 900 940 0 0 0 E0).1) 32 2 = 34 := by rw [mm.gvE (by omega)]; exact h2.1
    have g11 : gv (sv (sv w2 32 1 0) 32 13 (rmF t n 900 940 0 0 0 E0).1) 34 11 = (rmF t n 900 940 0 0 0 E0).2.1 := by rw [m34.gvE (by omega)]; exact b3.2
    rw [eX11_room_0, if_pos k9, if_pos k9, if_pos k9, h2.1, if_pos h2.2, hT.1.1, hT.2.1, a1]
    simp only [bN]
    rw [if_pos k91, if_pos k91, g4, if_pos S1.1.1, g2, b1]
    simp only [bI]
    rw [if_pos k92, c1]
    simp only []
    rw [if_neg e, if_neg (by decide), if_pos k94, g24, if_pos (show kd (sv (sv w2 32 1 0) 32 13 (rmF t n 900 940 0 0 0 E0).1) 34 = 4 from b2.1.1.1), g11]
  · have T2 : TpI w2 32 0 1 33 t n := hT.mf m12 (by omega) (by omega) (fun j => by omega)
    exact T2.zero.mf m4 (by omega) (by omega) (fun j => by omega)
theorem p_roomY (h : CD w q A hk H) (hs : SpI w q q') (hT : TpI w 32 0 1 33 t n) (h2 : gv w 32 2 = 34 ∧ kd w 34 = 4) (hW : WordI w) (h5 : gv w 32 5 = s ∧ kd w s = 7 ∧ (s = 70 ∨ s = 75)) (e : (rmF t n 900 940 0 0 0 E0).1 = 0) : ∃ w', Ex pro (d + 6) 99 w [rV 32] = some (some (iV (rmF t n 900 940 0 0 0 E0).2.2.1), w') ∧ CD w' q' (rmF t n 900 940 0 0 0 E0).2.2.2 0 H ∧ SpI w' q' q ∧ TpI w' 32 0 1 33 t 0 ∧ gv w' 32 13 = 0 ∧ WordI w' ∧ (gv w' s 4 = 0 ∧ gv w' s 5 = 0) ∧ Mf w w' (rdX q' s) := by
  obtain ⟨h1, hq, h8, hH, hO, hB, hn⟩ := h
  obtain ⟨s1, s2, s3⟩ := hs
  obtain ⟨w1, a1, a2, a3, a4, a5⟩ := t_open (d := d + 2) (most := 900) hW h2.2 hT (by omega)
  have S1 : StSh w1 q' := s2.eq (a5.eqO (fun r j r0 r1 => by omega))
  obtain ⟨w2, b1, ⟨p', b2⟩, b3, b4, b5, b6⟩ := t_readLines (d := d) (q := q') (by omega) a2 a3 a4 S1
  rw [e] at b3
  have m12 : Mf w w2 (fun r j => (r = 34 ∧ j ≤ 11) ∨ (q' ≤ r ∧ r ≤ q' + 16)) := (a5.trans b6).mono (fun r j z => by omega)
  have c1 := p_closes (d := d + 4) (w := w2) (by rw [m12.kdE]; exact h1.1) (by rw [m12.gvE (by omega)]; exact h2.1) b2.1.1.1 b3
  have m3 := Mf.svI w2 32 1 0
  have m4 := Mf.svI (sv w2 32 1 0) 32 13 0
  have m34 : Mf w2 (sv (sv w2 32 1 0) 32 13 0) (fun r j => r = 32 ∧ (j = 1 ∨ j = 13)) := (m3.trans m4).mono (fun r j z => by omega)
  have T2 : TpI w2 32 0 1 33 t n := hT.mf m12 (by omega) (by omega) (fun j => by omega)
  have T4 : TpI (sv (sv w2 32 1 0) 32 13 0) 32 0 1 33 t 0 := T2.zero.mf m4 (by omega) (by omega) (fun j => by omega)
  have m14 : Mf w (sv (sv w2 32 1 0) 32 13 0) (fun r j => (r = 32 ∧ (j = 1 ∨ j = 13)) ∨ (r = 34 ∧ j ≤ 11) ∨ (q' ≤ r ∧ r ≤ q' + 16)) := (m12.trans m34).mono (fun r j z => by omega)
  have z13 : gv (sv (sv w2 32 1 0) 32 13 0) 32 13 = 0 := gvSS _ _ _ _
  have S4 : StI (sv (sv w2 32 1 0) 32 13 0) q' (rmF t n 900 940 0 0 0 E0).2.2.2 := b5.mf m34 (fun r j r0 r1 => by omega)
  have W4 : WordI (sv (sv w2 32 1 0) 32 13 0) := b4.eq (m34.eqO (fun r j r0 r1 => by omega))
  have k92 : kd w2 32 = 9 := by rw [m12.kdE]; exact h1.1
  clear m3 m4
  generalize hw4 : sv (sv w2 32 1 0) 32 13 0 = w4 at c1 m34 T4 m14 z13 S4 W4
  have k94 : kd w4 32 = 9 := by rw [m14.kdE]; exact h1.1
  have sw := p_swap (d := d + 4) (w := w4) k94
  have g43 : gv w4 32 3 = q := by rw [m14.gvE (by omega)]; exact h1.2.1
  have g44 : gv w4 32 4 = q' := by rw [m14.gvE (by omega)]; exact s1
  rw [g43, g44] at sw
  have m5 := Mf.svI w4 32 3 q'
  have m6 := Mf.svI (sv w4 32 3 q') 32 4 q
  have m56 : Mf w4 (sv (sv w4 32 3 q') 32 4 q) (fun r j => r = 32 ∧ (j = 3 ∨ j = 4)) := (m5.trans m6).mono (fun r j z => by omega)
  have g63 : gv (sv (sv w4 32 3 q') 32 4 q) 32 3 = q' := by rw [m6.gvE (by omega), gvSS]
  have g64 : gv (sv (sv w4 32 3 q') 32 4 q) 32 4 = q := gvSS _ _ _ _
  clear m5 m6
  generalize hw6 : sv (sv w4 32 3 q') 32 4 q = w6 at sw m56 g63 g64
  have m16 : Mf w w6 (fun r j => (r = 32 ∧ (j = 1 ∨ j = 3 ∨ j = 4 ∨ j = 13)) ∨ (r = 34 ∧ j ≤ 11) ∨ (q' ≤ r ∧ r ≤ q' + 16)) := (m14.trans m56).mono (fun r j z => by omega)
  have k7 : kd w6 s = 7 := by rw [m16.kdE]; exact h5.2.1
  have cl := p_clear7 (d := d + 4) (w := w6) k7
  have m7 := Mf.svI w6 s 4 0
  have m8 := Mf.svI (sv w6 s 4 0) s 5 0
  have m78 : Mf w6 (sv (sv w6 s 4 0) s 5 0) (fun r j => r = s ∧ (j = 4 ∨ j = 5)) := (m7.trans m8).mono (fun r j z => by omega)
  have k3 : kd (sv (sv w6 s 4 0) s 5 0) 85 = 3 := by rw [m78.kdE, m16.kdE]; exact hH.1.1
  have fg := p_forget (d := d + 4) k3
  have m9 := Mf.svI (sv (sv w6 s 4 0) s 5 0) 85 2 0
  have m79 : Mf w6 (sv (sv (sv w6 s 4 0) s 5 0) 85 2 0) (fun r j => (r = s ∧ (j = 4 ∨ j = 5)) ∨ (r = 85 ∧ j = 2)) := (m78.trans m9).mono (fun r j z => by omega)
  have mm : Mf w (sv (sv (sv w6 s 4 0) s 5 0) 85 2 0) (rdX q' s) := (m16.trans m79).mono (fun r j z => by omega)
  have S6 : StI w6 q' (rmF t n 900 940 0 0 0 E0).2.2.2 := S4.mf m56 (fun r j r0 r1 => by omega)
  refine ⟨_, xX11_room (Rn.ret ?_), ⟨⟨by rw [mm.kdE]; exact h1.1, by rw [m79.gvE (by omega)]; exact g63, S6.mf m79 (fun r j r0 r1 => by omega)⟩, by omega, by rw [mm.gvE (by omega)]; exact h8, ?_, hO.ag mm.ag hn (fun r j z => by omega), hB.ag hO mm.ag hn (fun r j z => by omega), by rw [mm.nxE]; exact hn⟩, ⟨by rw [m79.gvE (by omega)]; exact g64, h1.2.2.1.eq (mm.eqO (fun r j r0 r1 => by omega)), by omega⟩, (T4.mf m56 (by omega) (by omega) (fun j => by omega)).mf m79 (by omega) (by omega) (fun j => by omega), by rw [m79.gvE (by omega), m56.gvE (by omega)]; exact z13, (W4.eq (m56.eqO (fun r j r0 r1 => by omega))).eq (m79.eqO (fun r j r0 r1 => by omega)), ⟨by rw [m9.gvE (by omega), m8.gvE (by omega), gvSS], by rw [m9.gvE (by omega), gvSS]⟩, mm⟩
  · have k9 := h1.1
    have k91 : kd w1 32 = 9 := by rw [a5.kdE]; exact k9
    have g2 : gv w1 32 2 = 34 := by rw [a5.gvE (by omega)]; exact h2.1
    have g4 : gv w1 32 4 = q' := by rw [a5.gvE (by omega)]; exact s1
    have k96 : kd w6 32 = 9 := by rw [m16.kdE]; exact k9
    have k98 : kd (sv (sv w6 s 4 0) s 5 0) 32 = 9 := k96
    have g65 : gv w6 32 5 = s := by rw [m16.gvE (by omega)]; exact h5.1
    have g88 : gv (sv (sv w6 s 4 0) s 5 0) 32 8 = 85 := by rw [m78.gvE (by omega), m16.gvE (by omega)]; exact h8
    rw [eX11_room_0, if_pos k9, if_pos k9, if_pos k9, h2.1, if_pos h2.2, hT.1.1, hT.2.1, a1]
    simp only [bN]
    rw [if_pos k91, if_pos k91, g4, if_pos S1.1.1, g2, b1]
    simp only [bI]
    rw [if_pos k92, c1]
    simp only []
    rw [if_pos trivial, if_pos (rfl : (0 : Int) = 0), if_pos k94, sw]
    simp only []
    rw [if_pos k96, g65, if_pos k7, cl]
    simp only []
    rw [if_pos k98, g88, if_pos k3, fg]
  · obtain ⟨x1, x2, x3, ol, x4, x5, x6⟩ := hH
    exact ⟨⟨by rw [mm.kdE]; exact x1.1, by rw [mm.gvE (by omega)]; exact x1.2.1, by rw [mm.kdE]; exact x1.2.2.1, by rw [mm.lnE]; exact x1.2.2.2⟩, gvSS _ _ _ _, by omega, ol, by rw [mm.gvE (by omega)]; exact x4, x5, fun i i0 i1 => by omega⟩
end PRm
