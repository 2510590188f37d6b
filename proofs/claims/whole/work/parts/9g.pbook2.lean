/-! ===== the class's book without a fault ===== -/
section PBk2
variable {d : Nat} {w : sW} {t : Int → Int} {n q q' hk : Int} {A : Rm} {H : Int → Rm} {T : Int → Int}
theorem l_book (h : CD w q A hk H) (hs : SpI w q q') (hT : TpI w 32 0 1 33 t n) (h2 : gv w 32 2 = 34 ∧ kd w 34 = 4) (hW : WordI w) (hB : BkI w T) (e : (bkFa t n A).1 = 0) : ∃ w13, (∀ a1, sg (Ex pro (d + 6)) mX11_book 2000 13 [some (rV 32), some (iV a1), none] [] w =
   if a1 = 0 then
    (if kd w13 32 = 9 then
    bN (Ex pro (d + 6) 101 w13 [rV 32]) (fun w14 =>
    if kd w14 32 = 9 then
    if kd w14 (gv w14 32 7) = 1 then
    if (gv w14 (gv w14 32 7) 5) = 0 then
     (some (.inr (some (iV (-1)), w14)))
    else
    some (.inr (some (iV (bkDa t n A).1), w14)) else none else none) else none)
   else
   if 0 < (bkDa t n A).1 then
    (if kd w13 32 = 9 then
    if kd w13 32 = 9 then
    if kd w13 (gv w13 32 8) = 3 then
    bN (Ex pro (d + 6) 12 w13 [rV (gv w13 32 8), rV (gv w13 32 4)]) (fun w15 =>
    if kd w15 32 = 9 then
    if kd w15 (gv w15 32 7) = 1 then
    if (gv w15 (gv w15 32 7) 5) = 0 then
     (some (.inr (some (iV (-1)), w15)))
    else
    some (.inr (some (iV (bkDa t n A).1), w15)) else none else none) else none else none else none)
   else
   if kd w13 32 = 9 then
   if kd w13 (gv w13 32 7) = 1 then
   if (gv w13 (gv w13 32 7) 5) = 0 then
    (some (.inr (some (iV (-1)), w13)))
   else
   some (.inr (some (iV (bkDa t n A).1), w13)) else none else none) ∧ CD w13 q (bkDa t n A).2.2 hk H ∧ (gv w13 32 4 = q' ∧ StI w13 q' A) ∧ TpI w13 32 0 1 33 t 0 ∧ gv w13 32 13 = 0 ∧ WordI w13 ∧ BkI w13 (bkT t n A) ∧ (kd w13 80 = 1 ∧ gv w13 80 5 = (bkDa t n A).2.1) ∧ Mf w w13 bkX := by
  obtain ⟨h1, hq, h8, hH, hO, hS, hn⟩ := h
  obtain ⟨s1, s2, s3⟩ := hs
  obtain ⟨⟨f7, c, L, hBo⟩, f14, fT⟩ := hB
  have k9 := h1.1
  obtain ⟨w1, a1', a2, a3, a4, a5⟩ := t_open (d := d + 3) (most := 400) hW h2.2 hT (by omega)
  obtain ⟨w2, b1, ⟨p', b2⟩, b3, b4, b5⟩ := t_bookLines (d := d) (most := 400) (w := w1) hq ⟨a2, a3, a4, Int.le_refl _⟩ (h1.2.2.mf a5 (fun r j r0 r1 => by omega)) (hBo.mf a5 (fun j j0 j1 => by omega) (fun r j r0 r1 r2 => by omega))
  have m12 : Mf w w2 (fun r j => (r = 34 ∧ j ≤ 11) ∨ (80 ≤ r ∧ r ≤ 84 ∧ (r = 80 → j = 4))) := (a5.trans b5).mono (fun r j z => by omega)
  have gd := bkF_good (t := t) (n := n) (most := 400) (A := A) h1.2.2.2.2.1.1 41 0 0 bL0 e (fun i i0 i1 => by omega)
  have hD : bkDa t n A = bkD (bkFa t n A).2.2.2 (bkFa t n A).2.2.1 41 0 A := rfl
  have e' : (bkF t n 400 A 41 0 0 bL0).1 = 0 := e
  rw [e'] at b2
  change BoI w2 (bkFa t n A).2.2.1 (bkFa t n A).2.2.2 at b4
  change ∀ i, 0 ≤ i → i < (bkFa t n A).2.2.1 → LnG A ((bkFa t n A).2.2.2 i) at gd
  have c1 := p_closes (d := d + 5) (w := w2) (by rw [m12.kdE]; exact h1.1) (by rw [m12.gvE (by omega)]; exact h2.1) b2.1.1.1.1 b2.2.1
  have m3 := Mf.svI w2 32 1 0
  have m4 := Mf.svI (sv w2 32 1 0) 32 13 0
  have m34 : Mf w2 (sv (sv w2 32 1 0) 32 13 0) (fun r j => r = 32 ∧ (j = 1 ∨ j = 13)) := (m3.trans m4).mono (fun r j z => by omega)
  have T2 : TpI w2 32 0 1 33 t n := hT.mf m12 (by omega) (by omega) (fun j => by omega)
  have T4 : TpI (sv (sv w2 32 1 0) 32 13 0) 32 0 1 33 t 0 := T2.zero.mf m4 (by omega) (by omega) (fun j => by omega)
  have mm : Mf w (sv (sv w2 32 1 0) 32 13 0) (fun r j => (r = 32 ∧ (j = 1 ∨ j = 13)) ∨ (r = 34 ∧ j ≤ 11) ∨ (80 ≤ r ∧ r ≤ 84 ∧ (r = 80 → j = 4))) := (m12.trans m34).mono (fun r j z => by omega)
  have z13 : gv (sv (sv w2 32 1 0) 32 13 0) 32 13 = 0 := gvSS _ _ _ _
  have B3 := b4.mf m34 (fun j j0 j1 => by omega) (fun r j r0 r1 r2 => by omega)
  have W3 : WordI (sv (sv w2 32 1 0) 32 13 0) := b2.2.2.1.eq (m34.eqO (fun r j r0 r1 => by omega))
  clear m3 m4
  generalize hw3 : sv (sv w2 32 1 0) 32 13 0 = w3 at c1 m34 T4 mm z13 B3 W3
  have S3 : StI w3 q A := h1.2.2.mf mm (fun r j r0 r1 => by omega)
  have Q3 : StSh w3 q' := s2.eq (mm.eqO (fun r j r0 r1 => by omega))
  obtain ⟨w5, u1, u2, u3⟩ := m_copyFrom (d := d + 4) (q := q') (q' := q) (by omega) Q3 S3
  have u2m := u2.mf
  have S5 : StI w5 q A := S3.mf u2m (fun r j r0 r1 => by omega)
  have B5 := B3.mf u2m (fun j j0 j1 => by omega) (fun r j r0 r1 r2 => by omega)
  have W5 : WordI w5 := W3.eq (u2m.eqO (fun r j r0 r1 => by omega))
  obtain ⟨w6, v1, v2, v3, v4, v5⟩ := t_liveOn (d := d + 1) hq W5 S5 B5 gd
  rw [← hD] at v1 v2 v4
  have m36 : Mf w3 w6 (fun r j => (36 ≤ r ∧ r ≤ 69) ∨ (r = 80 ∧ j = 5)) := (u2m.trans v5).mono (fun r j z => by
    rcases z with z | z
    · have z' : q' ≤ r ∧ r ≤ q' + 16 := z
      omega
    · omega)
  have m06 : Mf w w6 (fun r j => (r = 32 ∧ (j = 1 ∨ j = 13)) ∨ (r = 34 ∧ j ≤ 11) ∨ (80 ≤ r ∧ r ≤ 84 ∧ (r = 80 → j = 4 ∨ j = 5)) ∨ (36 ≤ r ∧ r ≤ 69)) := (mm.trans m36).mono (fun r j z => by omega)
  have m8 := Mf.svI w6 90 0 (bkDa t n A).2.1
  have m9 := Mf.svI (sv w6 90 0 (bkDa t n A).2.1) 90 1 (bkDa t n A).1
  generalize hw9 : sv (sv w6 90 0 (bkDa t n A).2.1) 90 1 (bkDa t n A).1 = w9 at m9
  have m69 : Mf w6 w9 (fun r j => r = 90) := (m8.trans m9).mono (fun r j z => by omega)
  have S9 : StI w9 q (bkDa t n A).2.2 := v2.mf m69 (fun r j r0 r1 => by omega)
  have al := m_allBits (d := d + 5) S9
  generalize hx : abt (bkDa t n A).2.2.2.2.2.1 0 (bkDa t n A).2.2.1.toNat = x at al
  have m12' := Mf.svI w9 90 2 x
  have m13 := Mf.svI (sv w9 90 2 x) 90 3 (bkDa t n A).2.2.2.2.2.2.1
  have e0 : gv w9 90 0 = (bkDa t n A).2.1 := by rw [m9.gvE (by omega), gvSS]
  have e1 : gv w9 90 1 = (bkDa t n A).1 := by rw [← hw9, gvSS]
  generalize hw13 : sv (sv w9 90 2 x) 90 3 (bkDa t n A).2.2.2.2.2.2.1 = w13 at m13
  have m913 : Mf w9 w13 (fun r j => r = 90 ∧ (j = 2 ∨ j = 3)) := (m12'.trans m13).mono (fun r j z => by omega)
  have m613 : Mf w6 w13 (fun r j => r = 90) := (m69.trans m913).mono (fun r j z => by
    rcases z with z | z
    · exact z
    · exact z.1)
  have mw : Mf w w13 bkX := (m06.trans m613).mono (fun r j z => by
    rcases z with z | z
    · omega
    · have z' : r = 90 := z
      omega)
  have k6 : kd w6 90 = 20 := by rw [m06.kdE]; exact f14.2.1
  have l6 : ln w6 90 = 4 := by rw [m06.lnE]; exact f14.2.2
  have k69 : kd w6 32 = 9 := by rw [m06.kdE]; exact k9
  have g67 : gv w6 32 7 = 80 := by rw [m06.gvE (by omega)]; exact f7
  have g614 : gv w6 32 14 = 90 := by rw [m06.gvE (by omega)]; exact f14.1
  have g93 : gv w9 32 3 = q := by rw [m69.gvE (by omega), m06.gvE (by omega)]; exact h1.2.1
  have g914 : gv w9 32 14 = 90 := by rw [m69.gvE (by omega)]; exact g614
  have k99 : kd w9 32 = 9 := by rw [m69.kdE]; exact k69
  have k990 : kd w9 90 = 20 := by rw [m69.kdE]; exact k6
  have l990 : ln w9 90 = 4 := by rw [m69.lnE]; exact l6
  refine ⟨w13, fun a1 => ?_, ⟨⟨by rw [mw.kdE]; exact k9, by rw [mw.gvE (by omega)]; exact h1.2.1, S9.mf m913 (fun r j r0 r1 => by omega)⟩, hq, by rw [mw.gvE (by omega)]; exact h8, hH.ag hO mw.ag hn (fun r j z => by omega), hO.ag mw.ag hn (fun r j z => by omega), hS.ag hO mw.ag hn (fun r j z => by omega), by rw [mw.nxE]; exact hn⟩, ⟨by rw [mw.gvE (by omega)]; exact s1, (u3.mf v5 (fun r j r0 r1 => by omega)).mf m613 (fun r j r0 r1 => by omega)⟩, (T4.mf m36 (by omega) (by omega) (fun j => by omega)).mf m613 (by omega) (by omega) (fun j => by omega), by rw [m613.gvE (by omega), m36.gvE (by omega)]; exact z13, (W3.eq (m36.eqO (fun r j r0 r1 => by omega))).eq (m613.eqO (fun r j r0 r1 => by omega)), ⟨⟨by rw [mw.gvE (by omega)]; exact f7, _, _, v3.mf m613 (fun j j0 j1 => by omega) (fun r j r0 r1 r2 => by omega)⟩, ⟨by rw [mw.gvE (by omega)]; exact f14.1, by rw [mw.kdE]; exact f14.2.1, by rw [mw.lnE]; exact f14.2.2⟩, fun i i0 i1 => ?_⟩, ⟨by rw [mw.kdE]; exact hBo.1.1, by rw [m613.gvE (by omega)]; exact v4⟩, mw⟩
  · have k91 : kd w1 32 = 9 := by rw [a5.kdE]; exact k9
    have k92 : kd w2 32 = 9 := by rw [m12.kdE]; exact k9
    have k93 : kd w3 32 = 9 := by rw [mm.kdE]; exact k9
    have k95 : kd w5 32 = 9 := by rw [u2m.kdE]; exact k93
    have g2 : gv w1 32 2 = 34 := by rw [a5.gvE (by omega)]; exact h2.1
    have g3 : gv w1 32 3 = q := by rw [a5.gvE (by omega)]; exact h1.2.1
    have g7 : gv w1 32 7 = 80 := by rw [a5.gvE (by omega)]; exact f7
    have k80 : kd w1 80 = 1 := by rw [a5.kdE]; exact hBo.1.1
    have g33 : gv w3 32 3 = q := by rw [mm.gvE (by omega)]; exact h1.2.1
    have g34 : gv w3 32 4 = q' := by rw [mm.gvE (by omega)]; exact s1
    have g53 : gv w5 32 3 = q := by rw [u2m.gvE (by omega)]; exact g33
    have g57 : gv w5 32 7 = 80 := by rw [u2m.gvE (by omega), mm.gvE (by omega)]; exact f7
    have k8 : kd (sv w6 90 0 (bkDa t n A).2.1) 32 = 9 := k69
    have g814 : gv (sv w6 90 0 (bkDa t n A).2.1) 32 14 = 90 := by rw [m8.gvE (by omega)]; exact g614
    have k890 : kd (sv w6 90 0 (bkDa t n A).2.1) 90 = 20 := k6
    have l890 : ln (sv w6 90 0 (bkDa t n A).2.1) 90 = 4 := l6
    have k12 : kd (sv w9 90 2 x) 32 = 9 := k99
    have g123 : gv (sv w9 90 2 x) 32 3 = q := by rw [m12'.gvE (by omega)]; exact g93
    have g1214 : gv (sv w9 90 2 x) 32 14 = 90 := by rw [m12'.gvE (by omega)]; exact g914
    have k1290 : kd (sv w9 90 2 x) 90 = 20 := k990
    have l1290 : ln (sv w9 90 2 x) 90 = 4 := l990
    have S12 : StI (sv w9 90 2 x) q (bkDa t n A).2.2 := S9.mf m12' (fun r j r0 r1 => by omega)
    have N12 : NowI (sv w9 90 2 x) 32 q (bkDa t n A).2.2 := ⟨k12, g123, S12⟩
    rw [eX11_book_13, if_pos k9, if_pos k9, if_pos k9, h2.1, if_pos h2.2, hT.1.1, hT.2.1, a1']
    simp only [bN]
    rw [if_pos k91, if_pos k91, if_pos k91, g7, if_pos k80, g2, g3, b1]
    simp only []
    rw [if_pos k92, c1]
    simp only [bI]
    rw [if_pos trivial, if_pos (rfl : (0 : Int) = 0), if_pos k93, if_pos k93, g33, g34, if_pos Q3.1.1, u1]
    simp only []
    rw [if_pos k95, if_pos k95, g57, if_pos B5.1.1, g53, v1]
    simp only []
    rw [if_pos k69, if_pos k69, g67, if_pos v3.1.1, g614, if_pos ⟨⟨k6, by omega⟩, by omega, by omega⟩, v4, wl_eq, if_pos k8, g814, if_pos ⟨⟨k890, by omega⟩, by omega, by omega⟩, wl_eq, hw9, if_pos k99, if_pos k99, g93, if_pos S9.1.1.1, al]
    simp only []
    rw [g914, if_pos ⟨⟨k990, by omega⟩, by omega, by omega⟩, wl_eq, if_pos k12, if_pos k12, N12.sc, if_pos N12.k8, if_pos N12.k6, g1214, if_pos ⟨⟨k1290, by omega⟩, by omega, by omega⟩, wl_eq, N12.scI.2.1, hw13]
  · unfold bkT
    by_cases i_0 : i = 0
    · rw [if_pos i_0, i_0, m913.gvE (by omega)]; exact e0
    · rw [if_neg i_0]
      by_cases i_1 : i = 1
      · rw [if_pos i_1, i_1, m913.gvE (by omega)]; exact e1
      · rw [if_neg i_1]
        by_cases i_2 : i = 2
        · rw [if_pos i_2, i_2, m13.gvE (by omega), gvSS, hx]
        · rw [if_neg i_2, show i = 3 by omega, ← hw13, gvSS]
end PBk2
