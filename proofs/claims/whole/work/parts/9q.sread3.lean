/-! ===== a sentence read by the class: one, and all ===== -/
section SR3
variable {d : Nat} {t : Int → Int} {n most q a D : Int} {A : Rm} {sa : Int → Int → Rs}
/-- the head of readOne, up to the counting -/
theorem l_oneH {w : sW} {p c : Int} {L : List Sp} (h : RS w t n most (0, 0, p)) (hE : SeR w a c L) : sg (Ex pro (d + 1)) mX7_readOne 2000 0 [some (rV a), some (rV 34), some (rV q), some (iV D), none, none] [] w =
   if at1 t n most p then (if c < 20 then (if 8 < D then bN (Ex pro (d + 1) 20 w [rV 34, iV 4]) (fun w4 => some (.inr (none, w4))) else
      bN (Ex pro (d + 1) 16 (sv w a 5 (c + 1)) [rV 34]) (fun w6 => if atS t n most p 40 then
        (if kd w6 a = 7 then bN (Ex pro (d + 1) 68 w6 [rV a, rV 34, rV q, iV (w32 (D + 1))]) (fun w10 => if kd w10 34 = 4 then bN (Ex pro (d + 1) 23 w10 [rV 34, iV 41]) (fun w11 => some (.inr (none, w11))) else none) else none)
        else if tkW t n most p = 14 then (if kd w6 a = 7 then bN (Ex pro (d + 1) 69 w6 [rV a, rV 34, rV q, iV (w32 (D + 1))]) (fun w7 => if kd w7 a = 7 then bN (Ex pro (d + 1) 71 w7 [rV a, rV 14, iV 0, iV 0]) (fun w8 => some (.inr (none, w8))) else none) else none)
        else (if kd w6 a = 7 then bN (Ex pro (d + 1) 70 w6 [rV a, rV 34, rV q, rV (tkW t n most p)]) (fun w9 => some (.inr (none, w9))) else none)))
     else bN (Ex pro (d + 1) 20 w [rV 34, iV 4]) (fun w4 => some (.inr (none, w4))))
   else bN (Ex pro (d + 1) 20 w [rV 34, iV 1]) (fun w3 => some (.inr (none, w3))) := by
  have k4 := h.1.1.1.1
  have k7 := hE.1.1.1
  have a32 := hE.1.2.2.2.2.2
  have wr := tkW_rg t n most p
  have w9 := h.1.2.2.2.2.2.2.2
  have c20 := hE.2.2.2.2.1
  have g5 := hE.2.2.2.1
  have m1 := Mf.svI w a 5 (c + 1)
  have k71 : kd (sv w a 5 (c + 1)) a = 7 := k7
  have k41 : kd (sv w a 5 (c + 1)) 34 = 4 := k4
  have ne : ¬ (34 = a) := fun e => by rw [← e, k4] at k7; omega
  have w91 : gv (sv w a 5 (c + 1)) 34 9 = tkW t n most p := by rw [m1.gvE (by omega)]; exact w9
  have h23 : tkW t n most p ≤ 23 ∧ (14 : Int) ≤ 23 := ⟨wr.1.2, by omega⟩
  rw [eX7_readOne_0, if_pos k4, t_isAtSign h.1]
  simp only [bI, ite10]
  rw [if_pos k4, h.2.1.1, if_pos rfl]
  by_cases b : atS t n most p 40
  · have at' : at1 t n most p := Or.inl b
    rw [if_pos at', if_pos b, if_pos k7, g5]
    by_cases y : c < 20
    · rw [if_pos y, if_pos y]
      by_cases y8 : 8 < D
      · rw [if_pos y8, if_pos y8, if_pos k4]
      · rw [if_neg y8, if_neg y8, if_pos k7, if_pos k7, w32_eq (x := c + 1) (by omega) (by omega), wl_eq, if_pos k41, if_pos k41]
        simp only [w91, if_pos h23]
    · rw [if_neg y, if_neg y, if_pos k4]
  · rw [if_neg b, if_pos k4, w9]
    by_cases c0 : tkW t n most p = 0
    · have at' : ¬ at1 t n most p := fun z => by
        rcases z with z | z
        · exact b z
        · omega
      rw [if_neg at', if_pos c0, if_pos k4]
    · have kW := h.2.2.1.k30 (W := tkW t n most p) (by omega)
      have sW := h.2.2.1.srt (W := tkW t n most p) (by omega)
      rw [if_neg c0, if_pos k4, if_pos kW, sW]
      by_cases c14 : 14 ≤ tkW t n most p
      · have at' : at1 t n most p := Or.inr ⟨c14, wr.1.2⟩
        have s2 : srt (tkW t n most p - 1) = 2 := by
          show (if _ then _ else if _ then _ else _) = _
          rw [if_neg (by omega), if_pos (by omega)]
        rw [if_pos at', if_pos s2, if_pos k7, g5]
        by_cases y : c < 20
        · rw [if_pos y, if_pos y]
          by_cases y8 : 8 < D
          · rw [if_pos y8, if_pos y8, if_pos k4]
          · rw [if_neg y8, if_neg y8, if_pos k7, if_pos k7, w32_eq (x := c + 1) (by omega) (by omega), wl_eq, if_pos k41, if_pos k41]
            simp only [w91, if_pos h23]
        · rw [if_neg y, if_neg y, if_pos k4]
      · have at' : ¬ at1 t n most p := fun z => by
          rcases z with z | z
          · exact b z
          · omega
        have s2 : ¬ srt (tkW t n most p - 1) = 2 := by
          show ¬ (if _ then _ else if _ then _ else _) = _
          split
          · omega
          · rw [if_neg (by omega)]; omega
        rw [if_neg at', if_neg s2, if_pos k4]
/-- readOne fails at its first token -/
theorem l_oneF {w : sW} {p c e : Int} {L : List Sp} (h : RS w t n most (0, 0, p)) (hE : SeR w a c L) (ha : 70 ≤ a) (he : sg (Ex pro (d + 1)) mX7_readOne 2000 0 [some (rV a), some (rV 34), some (rV q), some (iV D), none, none] [] w = bN (Ex pro (d + 1) 20 w [rV 34, iV e]) (fun w3 => some (.inr (none, w3)))) : ∃ w', Ex pro (d + 2) 69 w [rV a, rV 34, rV q, iV D] = some (none, w') ∧ RS w' t n most (e, tkP t n most p, p) ∧ SeR w' a c L ∧ Mf w w' (seP a) := by
  obtain ⟨w', a1, a2, a3, a4⟩ := t_fail (d := d) h.1 h.2.1 e
  refine ⟨w', xX7_readOne (Rn.ret ?_), ⟨a2, a3, h.2.2.1.mf34 a4, h.2.2.2⟩, hE.rd a4 ha, a4.mono (fun r j z => Or.inl z)⟩
  rw [he, a1]
  rfl
theorem t_one (hq : q = 36 ∨ q = 53) (ha : 70 ≤ a) : ∀ (g d : Nat) (D : Int), 2 * g ≤ d → D + g = 9 → 0 ≤ D → OneC (d + 5) t n most A q a D (saF t n most A g)
  | 0, d, D, hd, hD, hD0 => fun w p c L h hS hE hl => by
    have hh := l_oneH (d := d + 3) (q := q) (D := D) h hE
    unfold saF
    by_cases y : at1 t n most p
    · rw [if_pos y]
      rw [if_pos y, if_pos (by omega : 8 < D)] at hh
      have hh' : sg (Ex pro (d + 4)) mX7_readOne 2000 0 [some (rV a), some (rV 34), some (rV q), some (iV D), none, none] [] w = bN (Ex pro (d + 4) 20 w [rV 34, iV 4]) (fun w3 => some (.inr (none, w3))) := by
        rw [hh]
        split <;> rfl
      obtain ⟨w', a1, a2, a3, a4⟩ := l_oneF (d := d + 3) h hE ha hh'
      exact ⟨w', L, c, a1, a2, a3, a4, fun z => absurd (show (4 : Int) = 0 from z) (by omega)⟩
    · rw [if_neg y]
      rw [if_neg y] at hh
      obtain ⟨w', a1, a2, a3, a4⟩ := l_oneF (d := d + 3) h hE ha hh
      exact ⟨w', L, c, a1, a2, a3, a4, fun z => absurd (show (1 : Int) = 0 from z) (by omega)⟩
  | g + 1, d, D, hd, hD, hD0 => fun w p c L h hS hE hl => by
    obtain ⟨e, rfl⟩ : ∃ e, d = e + 2 := ⟨d - 2, by omega⟩
    have hh := l_oneH (d := e + 5) (q := q) (D := D) h hE
    have c20 := hE.2.2.2.2.1
    have hp : 0 ≤ p := h.2.2.2
    unfold saF
    by_cases y : at1 t n most p
    · rw [if_pos y]
      rw [if_pos y] at hh
      by_cases yc : 20 ≤ c
      · rw [if_pos yc]
        rw [if_neg (by omega)] at hh
        obtain ⟨w', a1, a2, a3, a4⟩ := l_oneF (d := e + 5) h hE ha hh
        exact ⟨w', L, c, a1, a2, a3, a4, fun z => absurd (show (4 : Int) = 0 from z) (by omega)⟩
      · rw [if_neg yc]
        rw [if_pos (by omega), if_neg (by omega)] at hh
        have k2 := at1_k y
        have ti := tk_in (t := t) (n := n) (most := most) (p := p) (by omega)
        have m0 := Mf.svI w a 5 (c + 1)
        have E0 : SeR (sv w a 5 (c + 1)) a (c + 1) L := by
          obtain ⟨b1, b2, b3, b4, b5, b6⟩ := hE
          exact ⟨b1.mf m0 (fun j j0 j1 => by omega), by rw [m0.gvE (by omega)]; exact b2, b3, gvSS _ _ _ _, by omega, StL.mf m0 L 0 b6 (fun r j r0 r1 j0 j1 => by omega)⟩
        have R0 : RS (sv w a 5 (c + 1)) t n most (0, 0, p) := h.mf m0 (fun j => by omega) (fun j => by omega) (fun r j r0 r1 => by omega)
        obtain ⟨w6, a1, a2, a3, a4, a5⟩ := t_next (d := e + 4) R0.2.2.1 R0.1 R0.2.1 k2 hp
        have m6 : Mf w w6 (seP a) := (m0.trans a5).mono (fun r j z => by omega)
        have R6 : RS w6 t n most (0, 0, tkT t n most p) := ⟨a2, a3, a4, by show 0 ≤ tkT t n most p; omega⟩
        have E6 : SeR w6 a (c + 1) L := E0.mf a5 (fun j j0 j1 => by omega) (fun r j r0 r1 => by omega)
        have S6 := hS.mf m6 (fun r j r0 r1 => by omega)
        have k6 := E6.1.1.1
        have wD : w32 (D + 1) = D + 1 := w32_eq (by omega) (by omega)
        rw [a1] at hh
        simp only [bN] at hh
        by_cases b : atS t n most p 40
        · rw [if_pos b]
          rw [if_pos b, if_pos k6, wD] at hh
          obtain ⟨w1, L1, c1, e1, e2, e3, e4, e5⟩ := t_cond (d := e + 2) (D := D + 1) hq ha (t_one hq ha g e (D + 1) (by omega) (by omega) (by omega)) (fun p c h0 hc h20 => saF_ok g p c h0 hc h20) w6 (tkT t n most p) (c + 1) L R6 S6 E6 (by omega)
          obtain ⟨w2, f1, f2, f3⟩ := t_stS (d := e + 3) e2 41
          have m2 : Mf w w2 (seP a) := m6.tr (e4.tr (f3.mono (fun r j z => Or.inl z)))
          refine ⟨w2, L1, c1, xX7_readOne (Rn.ret ?_), f2, e3.rd f3 ha, m2, fun z => ?_⟩
          · rw [hh, e1]
            simp only []
            rw [if_pos e2.1.1.1.1, f1]
          · have z1 := stS_y z
            obtain ⟨x1, x2, x3⟩ := e5 z1
            exact ⟨x1, by omega, x3⟩
        · rw [if_neg b]
          rw [if_neg b] at hh
          by_cases c14 : tkW t n most p = 14
          · rw [if_pos c14]
            rw [if_pos c14, if_pos k6, wD] at hh
            obtain ⟨w1, L1, c1, e1, e2, e3, e4, e5⟩ := t_one hq ha g (e + 1) (D + 1) (by omega) (by omega) (by omega) w6 (tkT t n most p) (c + 1) L R6 S6 E6 (by omega)
            obtain ⟨w2, L2, f1, f2, f3, f4⟩ := t_addStep (d := e + 5) e3 (s := 0) (v := 0) (e2.2.2.1.k30 (W := 14) (by omega)) (by omega)
            have m2 : Mf w w2 (seP a) := m6.tr (e4.tr (f3.mono (fun r j z => Or.inr z)))
            refine ⟨w2, L2, c1, xX7_readOne (Rn.ret ?_), e2.sn f3 ha, f2, m2, fun z => ?_⟩
            · rw [hh, e1]
              simp only []
              rw [if_pos e3.1.1.1, f1]
            · have z1 : (saF t n most A g (tkT t n most p) (c + 1)).1.1 = 0 := z
              obtain ⟨x1, x2, x3⟩ := e5 z1
              have ok := saF_ok (t := t) (n := n) (most := most) (A := A) g (tkT t n most p) (c + 1) (by omega) (by omega) (by omega) z1
              have l2 := f4 (by omega)
              refine ⟨x1, by rw [l2, List.length_append]; show ((L1.length + 1 : Nat) : Int) ≤ _; omega, fun B r s eB hr => ?_⟩
              rw [l2, evS_app, x3 B r s eB hr]
              exact ev1_not _ _
          · rw [if_neg c14]
            rw [if_neg c14, if_pos k6] at hh
            have wW : 15 ≤ tkW t n most p ∧ tkW t n most p ≤ 23 := by
              rcases y with y | y
              · exact absurd y b
              · omega
            obtain ⟨w1, e1, e2, e3, e4⟩ := t_plain (d := e + 2) R6 S6 hq E6 ha wW (by omega)
            refine ⟨w1, _, c + 1, xX7_readOne (Rn.ret ?_), e2, e3, m6.tr e4, fun z => ⟨rfl, ?_, fun B r s eB hr => ?_⟩⟩
            · rw [hh, e1]
            · rw [List.length_append]
              show ((L.length + 1 : Nat) : Int) ≤ _
              omega
            · rw [evS_app]
              exact ev1_pl (by rw [saP_W]; exact wW.1) _
    · rw [if_neg y]
      rw [if_neg y] at hh
      obtain ⟨w', a1, a2, a3, a4⟩ := l_oneF (d := e + 5) h hE ha hh
      exact ⟨w', L, c, a1, a2, a3, a4, fun z => absurd (show (1 : Int) = 0 from z) (by omega)⟩
/-- readAll -/
theorem t_readAll {w : sW} {c : Int} {L : List Sp} (hq : q = 36 ∨ q = 53) (ha : 70 ≤ a) (h : RS w t n most (0, 0, 0)) (hS : StI w q A) (hE : SeSh w a) : ∃ w' L' c', Ex pro (d + 23) 67 w [rV a, rV 34, rV q] = some (none, w') ∧ RS w' t n most (seF t n most A).1 ∧ SeR w' a c' L' ∧ Mf w w' (seP a) ∧ ((seF t n most A).1.1 = 0 → c' = (seF t n most A).2.1 ∧ 0 < c' ∧ Dn A.1 [] L' (seF t n most A).2.2) := by
  have m1 := Mf.svI w a 4 0
  have m2 := Mf.svI (sv w a 4 0) a 5 0
  have m12 : Mf w (sv (sv w a 4 0) a 5 0) (fun r j => r = a ∧ (j = 4 ∨ j = 5)) := (m1.trans m2).mono (fun r j z => by omega)
  have E2 : SeR (sv (sv w a 4 0) a 5 0) a 0 [] := ⟨hE.mf m12 (fun j j0 j1 => by omega), by rw [m2.gvE (by omega), gvSS]; rfl, by simp, gvSS _ _ _ _, by omega, trivial⟩
  have k7 := hE.1.1
  have k7' : kd (sv w a 4 0) a = 7 := k7
  have cl : Ex pro (d + 22) 65 w [rV a] = some (none, sv (sv w a 4 0) a 5 0) := by
    refine xX7_clear (Rn.ret ?_)
    rw [eX7_clear_0, if_pos k7, wl_eq, if_pos k7', wl_eq]
  have R2 : RS (sv (sv w a 4 0) a 5 0) t n most (0, 0, 0) := h.mf m12 (fun j => by omega) (fun j => by omega) (fun r j r0 r1 => by omega)
  obtain ⟨w3, L3, c3, e1, e2, e3, e4, e5⟩ := t_cond (d := d + 18) (D := 1) hq ha (t_one hq ha 8 (d + 16) 1 (by omega) (by omega) (by omega)) (fun p c h0 hc h20 => saF_ok 8 p c h0 hc h20) _ 0 0 [] R2 (hS.mf m12 (fun r j r0 r1 => by omega)) E2 (by simp)
  have m3 : Mf w w3 (seP a) := (m12.trans e4).mono (fun r j z => by omega)
  have ok := cdT_ok (t := t) (n := n) (most := most) (sa := saF t n most A 8) (fun p c h0 hc h20 => saF_ok 8 p c h0 hc h20) (p := 0) (c := 0) (by omega) (by omega) (by omega)
  have gon := t_goesOn (d := d + 21) e2.1 e2.2.1
  unfold seF
  by_cases z : (cdT t n most (saF t n most A 8) 0 0).1.1 = 0 ∧ tkK t n most (cdT t n most (saF t n most A 8) 0 0).1.2.2 ≠ 0
  · rw [if_pos z]
    have f2 := e2.2.1
    rw [z.1] at f2
    obtain ⟨w4, f1, f3, f4, f5⟩ := t_fail (d := d + 21) e2.1 f2 1
    refine ⟨w4, L3, c3, xX7_readAll (Rn.ret ?_), ⟨f3, f4, e2.2.2.1.mf34 f5, e2.2.2.2⟩, e3.rd f5 ha, m3.tr (f5.mono (fun r j z => Or.inl z)), fun y => absurd (show (1 : Int) = 0 from y) (by omega)⟩
    rw [eX7_readAll_0, if_pos k7, cl]
    simp only [bN]
    rw [if_pos E2.1.1.1, e1]
    simp only []
    rw [if_pos e2.1.1.1.1, gon]
    simp only [bI]
    rw [if_pos z, if_neg (by simp), if_pos e2.1.1.1.1, f1]
  · rw [if_neg z]
    refine ⟨w3, L3, c3, xX7_readAll (Rn.ret ?_), e2, e3, m3, fun y => ?_⟩
    · rw [eX7_readAll_0, if_pos k7, cl]
      simp only [bN]
      rw [if_pos E2.1.1.1, e1]
      simp only []
      rw [if_pos e2.1.1.1.1, gon]
      simp only [bI]
      rw [if_neg z, if_pos (by simp)]
    · obtain ⟨x1, x2, x3⟩ := e5 y
      have := ok y
      exact ⟨x1, by omega, x3⟩
end SR3
