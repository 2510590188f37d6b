/-! ===== all lines: the reference ===== -/
theorem lnF_up {t : Int → Int} {n most many told : Int} {A : Rm} {p : Int} (z : (lnF t n most many told A p).1 = 0) : p < (lnF t n most many told A p).2.2.1 := by
  have wr := tkW_rg t n most p
  unfold lnF at *
  by_cases c1 : tkW t n most p = 1
  · have ti := tk_in (t := t) (n := n) (most := most) (p := p) (by have := wr.2 (by omega); omega)
    rw [if_pos c1] at *
    unfold leafLn at *
    by_cases c : many = 0
    · rw [if_pos c] at *
      by_cases y : atN t n most (tkT t n most p) 4 32
      · rw [if_pos y]
        have t2 := tk_in (t := t) (n := n) (most := most) (p := tkT t n most p) (by omega)
        show p < tkT t n most (tkT t n most p)
        omega
      · rw [if_neg y] at z
        change whyNm t n most (tkT t n most p) = 0 at z
        unfold whyNm at z
        split at z <;> omega
    · rw [if_neg c] at z
      change (3 : Int) = 0 at z
      omega
  · rw [if_neg c1] at *
    by_cases c2 : tkW t n most p = 2
    · have ti := tk_in (t := t) (n := n) (most := most) (p := p) (by have := wr.2 (by omega); omega)
      rw [if_pos c2] at *
      unfold rowLn at *
      by_cases c4 : A.1 < 4
      · rw [if_pos c4] at *
        by_cases c : isNm t n most (tkT t n most p)
        · rw [if_pos c] at *
          by_cases c3 : rowN A t n most (tkT t n most p) = -1
          · rw [if_pos c3]
            have t2 := tk_in (t := t) (n := n) (most := most) (p := tkT t n most p) (by omega)
            have g := (rdB_z t n most A.2.1 940 (tkT t n most (tkT t n most p)) Z0).1
            show p < (rdB t n most A.2.1 940 (tkT t n most (tkT t n most p)) Z0).2.2.1
            omega
          · rw [if_neg c3] at z
            change (3 : Int) = 0 at z
            omega
        · rw [if_neg c] at z
          change (1 : Int) = 0 at z
          omega
      · rw [if_neg c4] at z
        change (4 : Int) = 0 at z
        omega
    · rw [if_neg c2] at *
      by_cases c3 : tkW t n most p = 3
      · have ti := tk_in (t := t) (n := n) (most := most) (p := p) (by have := wr.2 (by omega); omega)
        rw [if_pos c3] at *
        unfold letLn at *
        by_cases c : told = 0
        · rw [if_pos c]
          have g := (rdT_z t n most 940 (tkT t n most p) A.2.2.2.2).1
          show p < (rdT t n most 940 (tkT t n most p) A.2.2.2.2).2.2.1
          omega
        · rw [if_neg c] at z
          change (3 : Int) = 0 at z
          omega
      · rw [if_neg c3] at z
        change (1 : Int) = 0 at z
        omega
abbrev rQ (m r j : Int) : Prop := rP m r j ∨ (r = m ∧ j = 25)
theorem okR_01 (x : Int) : okR x = 0 ∨ okR x = 1 := by
  unfold okR
  split
  · exact Or.inr rfl
  · exact Or.inl rfl
section MB5
variable {d : Nat} {w : sW} {m : Int} {t : Int → Int} {n most p : Int}
theorem o_line {many told : Int} {A : Rm} (hM : MSh w m) (h : RdM w m t n most p) (hR : MRd w m A) (h0 : 0 ≤ p) (hm : 0 ≤ many) (hA : many = 0 → A.1 = 0) (h25 : gv w m 25 = told) (h01 : told = 0 ∨ told = 1) : ∃ w', Ex pro (d + 5) 177 w [rV m, iV many] = some (some (iV (okR (lnF t n most many told A p).1)), w') ∧ MSh w' m ∧ RdM w' m t n most (lnF t n most many told A p).2.2.1 ∧ ((lnF t n most many told A p).1 ≠ 0 → FlM w' m (lnF t n most many told A p).1 (lnF t n most many told A p).2.1) ∧ MRd w' m (lnF t n most many told A p).2.2.2 ∧ Mf w w' (rQ m) ∧ ((lnF t n most many told A p).1 = 0 → gv w' m 10 = gv w m 10) ∧ gv w' m 25 = toldF t n most p told := by
  have k10 := h.1.1.1
  have wr := tkW_rg t n most p
  have q0 := o_isWord (d := d + 1) h (k := 0) (by omega)
  have q1 := o_isWord (d := d + 1) h (k := 1) (by omega)
  have q2 := o_isWord (d := d + 1) h (k := 2) (by omega)
  unfold lnF toldF
  by_cases c1 : tkW t n most p = 1
  · rw [if_pos c1, if_neg (by omega)]
    obtain ⟨w', a1, a2, a3, a4, a5, a6, a7⟩ := o_leafLn (d := d) hM h hR h0 hm hA (wr.2 (by omega))
    refine ⟨w', xX12_readLine (Rn.ret ?_), a2, a3, a4, a5, a6.mono (fun r j z => Or.inl z), a7, by rw [a6.gvE (by omega)]; exact h25⟩
    rw [eX12_readLine_0, if_pos k10, q0]
    simp only [bI, ite10]
    rw [if_pos (show isW t n most p 0 by unfold isW; omega), if_pos k10, a1]
    simp only []
    rw [if_pos (okR_01 _)]
  · rw [if_neg c1]
    by_cases c2 : tkW t n most p = 2
    · rw [if_pos c2, if_neg (by omega)]
      obtain ⟨w', a1, a2, a3, a4, a5, a6, a7⟩ := o_rowLn (d := d) hM h hR h0 (wr.2 (by omega))
      refine ⟨w', xX12_readLine (Rn.ret ?_), a2, a3, a4, a5, a6.mono (fun r j z => Or.inl z), a7, by rw [a6.gvE (by omega)]; exact h25⟩
      rw [eX12_readLine_0, if_pos k10, q0]
      simp only [bI, ite10]
      rw [if_neg (show ¬ isW t n most p 0 by unfold isW; omega), if_pos k10, q1]
      simp only [ite10]
      rw [if_pos (show isW t n most p 1 by unfold isW; omega), if_pos k10, a1]
      simp only []
      rw [if_pos (okR_01 _)]
    · rw [if_neg c2]
      by_cases c3 : tkW t n most p = 3
      · rw [if_pos c3, if_pos c3]
        obtain ⟨w', a1, a2, a3, a4, a5, a6, a7, a8⟩ := o_letLn (d := d) hM h hR h0 h25 h01 (wr.2 (by omega))
        refine ⟨w', xX12_readLine (Rn.ret ?_), a2, a3, a4, a5, a6, a7, a8⟩
        rw [eX12_readLine_0, if_pos k10, q0]
        simp only [bI, ite10]
        rw [if_neg (show ¬ isW t n most p 0 by unfold isW; omega), if_pos k10, q1]
        simp only [ite10]
        rw [if_neg (show ¬ isW t n most p 1 by unfold isW; omega), if_pos k10, q2]
        simp only [ite10]
        rw [if_pos (show isW t n most p 2 by unfold isW; omega), if_pos k10, a1]
        simp only []
        rw [if_pos (okR_01 _)]
      · rw [if_neg c3, if_neg c3]
        obtain ⟨w', a1, a2, a3, a4⟩ := o_bad (d := d + 3) h 1
        rw [show (if tkK t n most p = 1 then (1 : Int) else 1) = 1 by split <;> rfl] at a3
        refine ⟨w', xX12_readLine (Rn.ret ?_), hM.mf a4 (fun j z => by omega), a2, fun _ => a3, hR.mf a4 (fun j => by omega) (fun j => by omega), a4.mono (fun r j z => by omega), fun z => by change (1 : Int) = 0 at z; omega, by rw [a4.gvE (by omega)]; exact h25⟩
        rw [eX12_readLine_0, if_pos k10, q0]
        simp only [bI, ite10]
        rw [if_neg (show ¬ isW t n most p 0 by unfold isW; omega), if_pos k10, q1]
        simp only [ite10]
        rw [if_neg (show ¬ isW t n most p 1 by unfold isW; omega), if_pos k10, q2]
        simp only [ite10]
        rw [if_neg (show ¬ isW t n most p 2 by unfold isW; omega), if_pos k10, a1]
        simp only []
        rw [if_pos (Or.inl trivial)]
        rfl
theorem l_mroom : ∀ (f : Nat) (p many told : Int) (w : sW) (A : Rm), n - p < 2 * (f : Int) → 0 ≤ p → p ≤ n → 0 ≤ many ∧ many ≤ p → MSh w m → RdM w m t n most p → MRd w m A → (many = 0 → A.1 = 0) → gv w m 25 = told → (told = 0 ∨ told = 1) → ∃ w', MSh w' m ∧ Mf w w' (rQ m) ∧ ((rmF t n most f p many told A).1 ≠ 0 → Rn (Ex pro (d + 5)) mX12_room (44, [some (rV m), some (iV many), none], [], w) (some (iV (w32 (-1 - (rmF t n most f p many told A).2.1))), w') ∧ FlM w' m (rmF t n most f p many told A).1 (rmF t n most f p many told A).2.1) ∧ ((rmF t n most f p many told A).1 = 0 → (∀ res, Rn (Ex pro (d + 5)) mX12_room (81, [some (rV m), some (iV (rmF t n most f p many told A).2.2.1), some (iV 0)], [], w') res → Rn (Ex pro (d + 5)) mX12_room (44, [some (rV m), some (iV many), none], [], w) res) ∧ MRd w' m (rmF t n most f p many told A).2.2.2 ∧ gv w' m 10 = gv w m 10)
  | 0, p, many, told, w, A, hf, h0, hp, hm, hM, h, hR, hA, h25, h01 => by omega
  | f + 1, p, many, told, w, A, hf, h0, hp, hm, hM, h, hR, hA, h25, h01 => by
    have k10 := h.1.1.1
    have n94 := h.1.2.2.1
    unfold rmF
    by_cases kz : tkK t n most p = 0
    · rw [if_pos kz]
      refine ⟨w, hM, Mf.refl _ _, fun z => absurd rfl z, fun _ => ⟨fun res g => Rn.cut ?_ g, hR, rfl⟩⟩
      rw [eX12_room_44, if_pos k10, h.2.1, if_pos kz]
    · rw [if_neg kz]
      obtain ⟨w1, a1, a2, a3, a4, a5, a6, a7, a8⟩ := o_line (d := d) hM h hR h0 hm.1 hA h25 h01
      have k1 := a3.1.1.1
      by_cases e0 : (lnF t n most many told A p).1 = 0
      · rw [if_pos e0]
        have up := lnF_up e0
        rw [show okR (lnF t n most many told A p).1 = 1 by unfold okR; rw [if_pos e0]] at a1
        by_cases y : atS t n most (lnF t n most many told A p).2.2.1 59
        · rw [if_pos y]
          obtain ⟨w2, b1, b2, b3, b4⟩ := o_endY (d := d + 2) a3 (by omega) y
          have t2 := tk_in (t := t) (n := n) (most := most) (p := (lnF t n most many told A p).2.2.1) (by omega)
          have go : sg (Ex pro (d + 5)) mX12_room 2000 44 [some (rV m), some (iV many), none] [] w = some (.inl (44, [some (rV m), some (iV (many + 1)), none], [], w2)) := by
            rw [eX12_room_44, if_pos k10, h.2.1, if_neg kz, if_pos k10, a1]
            simp only [bI]
            rw [if_neg (by decide), if_pos k1, b1]
            simp only []
            rw [if_neg (by decide), w32_eq (by omega) (by omega)]
          obtain ⟨w', g1, g2, g3, g4⟩ := l_mroom f _ (many + 1) (toldF t n most p told) w2 _ (by omega) (by omega) t2.2.2.2 (by omega) (a2.mf b4 (fun j z => by omega)) b2 (a5.mf b4 (fun j => by omega) (fun j => by omega)) (fun z => by omega) (by rw [b4.gvE (by omega)]; exact a8) (by unfold toldF; split <;> omega)
          refine ⟨w', g1, ((a6.trans b4).mono (Q := rQ m) (fun r j z => by omega)).tr g2, fun z => ⟨Rn.cut go (g3 z).1, (g3 z).2⟩, fun z => ⟨fun res g => Rn.cut go ((g4 z).1 res g), (g4 z).2.1, by rw [(g4 z).2.2, b3, a7 e0]⟩⟩
        · rw [if_neg y]
          obtain ⟨w2, b1, b2, b3, b4⟩ := o_endN (d := d + 2) a3 y
          refine ⟨w2, a2.mf b4 (fun j z => by omega), (a6.trans b4).mono (fun r j z => by omega), fun _ => ⟨Rn.ret ?_, b3⟩, fun z => by change (1 : Int) = 0 at z; omega⟩
          rw [eX12_room_44, if_pos k10, h.2.1, if_neg kz, if_pos k10, a1]
          simp only [bI]
          rw [if_neg (by decide), if_pos k1, b1]
          simp only []
          rw [if_pos trivial, if_pos b2.1.1.1, b3.2]
      · rw [if_neg e0]
        rw [show okR (lnF t n most many told A p).1 = 0 by unfold okR; rw [if_neg e0]] at a1
        refine ⟨w1, a2, a6, fun _ => ⟨Rn.ret ?_, a4 e0⟩, fun z => absurd z e0⟩
        rw [eX12_room_44, if_pos k10, h.2.1, if_neg kz, if_pos k10, a1]
        simp only [bI]
        rw [if_pos trivial, if_pos k1, (a4 e0).2]
end MB5
