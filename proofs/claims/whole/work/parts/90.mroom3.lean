/-! ===== a line that tells a row: the reference ===== -/
/-- a reading of the reference: 1, or 0 with the fault and its place -/
abbrev okR (x : Int) : Int := if x = 0 then 1 else 0
section MB3
variable {d : Nat} {w : sW} {m : Int} {t : Int → Int} {n most p : Int}
theorem l_mrowW {r : Int} : ∀ (f : Nat) (p : Int) (w : sW) (A : Rm), n - p ≤ f → 0 ≤ p → MSh w m → RdM w m t n most p → MRd w m A → 0 ≤ r ∧ r < A.1 → ∃ w', Rn (Ex pro (d + 3)) mX12_readRow (86, [some (rV m), some (iV r), none], [], w) (some (iV (okR (rdB t n most A.2.1 f p (A.2.2.2.1 r)).1)), w') ∧ MSh w' m ∧ RdM w' m t n most (rdB t n most A.2.1 f p (A.2.2.2.1 r)).2.2.1 ∧ ((rdB t n most A.2.1 f p (A.2.2.2.1 r)).1 ≠ 0 → FlM w' m (rdB t n most A.2.1 f p (A.2.2.2.1 r)).1 (rdB t n most A.2.1 f p (A.2.2.2.1 r)).2.1) ∧ MRd w' m (setRow A r (rdB t n most A.2.1 f p (A.2.2.2.1 r)).2.2.2) ∧ Mf w w' (rP m) ∧ ((rdB t n most A.2.1 f p (A.2.2.2.1 r)).1 = 0 → gv w' m 10 = gv w m 10)
  | 0, p, w, A, hf, h0, hM, h, hR, hr => by
    have k : ¬ tkK t n most p = 2 := fun z => by
      have ti := tk_in (t := t) (n := n) (most := most) (p := p) (by omega)
      omega
    refine ⟨w, Rn.ret ?_, hM, h, fun z => absurd rfl z, by unfold rdB; rw [setRow1]; exact hR, Mf.refl _ _, fun _ => rfl⟩
    rw [eX12_readRow_86, if_pos h.1.1.1, h.2.1, if_neg k]
    rfl
  | f + 1, p, w, A, hf, h0, hM, h, hR, hr => by
    have k10 := h.1.1.1
    unfold rdB
    by_cases k : tkK t n most p = 2
    · rw [if_pos k]
      have al := tk_len k h0
      have n94 := h.1.2.2.1
      have hA := hR.2.1
      have a15 := hM.2.2.2.1
      have hs := (hR.2.2.2.1 r hr.1 hr.2).n
      have i1 : kd w (m + 3) = 20 ∧ 0 ≤ 2 + r ∧ 2 + r < ln w (m + 3) := ⟨a15.2.1, by omega, by rw [a15.2.2]; omega⟩
      by_cases y1 : okB t (tkL t n most p).toNat (tkP t n most p) = 1
      · by_cases y2 : (A.2.2.2.1 r).1 + tkL t n most p ≤ 600
        · rw [if_pos ⟨y1, y2⟩]
          obtain ⟨w1, a1, a2, a3, a4, a5, a6⟩ := l_mbits (d := d) (r := r) k h0 (tkL t n most p).toNat (tkP t n most p) w A hM h hR hr (by omega) (by omega) (by omega)
          have ti := tk_in (t := t) (n := n) (most := most) (p := p) (by omega)
          obtain ⟨w', g1, g2, g3, g4, g5, g6, g7⟩ := l_mrowW f (tkT t n most p) w1 _ (by omega) (by omega) a2 a3 a4 hr
          rw [setRow_at] at g1 g3 g4 g5 g7
          rw [setRow2] at g5
          refine ⟨w', Rn.cut ?_ (a1 _ g1), g2, g3, g4, g5, a5.tr g6, fun z => (g7 z).trans a6⟩
          rw [eX12_readRow_86, if_pos k10, h.2.1, if_pos k, if_pos k10, o_areBits h k h0, y1]
          simp only [bI]
          rw [if_neg (by decide), if_pos k10, a15.1, w32_eq (x := 2 + r) (by omega) (by omega), if_pos i1, if_pos k10, if_pos k10, hs.1, h.2.2.2.1 (by omega), h.2.2.1, w32_eq (x := (A.2.2.2.1 r).1 + tkT t n most p) (by omega) (by omega), w32_eq (by omega) (by omega), if_neg (by omega), if_pos k10]
        · rw [if_neg (fun z => y2 z.2), if_pos y1]
          obtain ⟨w1, a1, a2, a3, a4⟩ := o_bad (d := d + 2) h 4
          rw [if_neg (by omega)] at a3
          refine ⟨w1, Rn.ret ?_, hM.mf a4 (fun j z => by omega), a2, fun _ => a3, by rw [setRow1]; exact hR.mf a4 (fun j => by omega) (fun j => by omega), a4.mono (fun r j z => by omega), fun z => by change (4 : Int) = 0 at z; omega⟩
          rw [eX12_readRow_86, if_pos k10, h.2.1, if_pos k, if_pos k10, o_areBits h k h0, y1]
          simp only [bI]
          rw [if_neg (by decide), if_pos k10, a15.1, w32_eq (x := 2 + r) (by omega) (by omega), if_pos i1, if_pos k10, if_pos k10, hs.1, h.2.2.2.1 (by omega), h.2.2.1, w32_eq (x := (A.2.2.2.1 r).1 + tkT t n most p) (by omega) (by omega), w32_eq (by omega) (by omega), if_pos (by omega), if_pos k10, a1]
          simp only []
          rw [if_pos (Or.inl trivial)]
          rfl
      · rw [if_neg (fun z => y1 z.1), if_neg y1]
        have y0 := (okB_01 t (tkL t n most p).toNat (tkP t n most p)).resolve_right y1
        obtain ⟨w1, a1, a2, a3, a4⟩ := o_bad (d := d + 2) h 2
        rw [if_neg (by omega)] at a3
        refine ⟨w1, Rn.ret ?_, hM.mf a4 (fun j z => by omega), a2, fun _ => a3, by rw [setRow1]; exact hR.mf a4 (fun j => by omega) (fun j => by omega), a4.mono (fun r j z => by omega), fun z => by change (2 : Int) = 0 at z; omega⟩
        rw [eX12_readRow_86, if_pos k10, h.2.1, if_pos k, if_pos k10, o_areBits h k h0, y0]
        simp only [bI]
        rw [if_pos trivial, if_pos k10, a1]
        simp only []
        rw [if_pos (Or.inl trivial)]
        rfl
    · rw [if_neg k]
      refine ⟨w, Rn.ret ?_, hM, h, fun z => absurd rfl z, by rw [setRow1]; exact hR, Mf.refl _ _, fun _ => rfl⟩
      rw [eX12_readRow_86, if_pos k10, h.2.1, if_neg k]
      rfl
theorem MRd.add {w : sW} {m c c' : Int} {A : Rm} (h : MRd w m A) (hA : A.1 < 4) (hc : nmR c c') : MRd (sv (sv w (m + 9) A.1 c') (m + 3) 0 (A.1 + 1)) m (addRow A c Z0) := by
  obtain ⟨h1, h2, h3, h4, h5, h6, h7, h8, h9⟩ := h
  have X : ∀ j, j ≠ 0 → gv (sv (sv w (m + 9) A.1 c') (m + 3) 0 (A.1 + 1)) (m + 3) j = gv w (m + 3) j := fun j hj => by
    rw [gvS, if_neg (fun z => hj z.2), gvS, if_neg (by omega)]
  refine ⟨⟨gvSS _ _ _ _, by rw [X 1 (by omega)]; exact h1.2⟩, ⟨by show 0 ≤ A.1 + 1; omega, by show A.1 + 1 ≤ 4; omega⟩, h3, fun r r0 r1 => ?_, fun r r0 r1 => ?_, by rw [X 6 (by omega)]; exact h6, h7, fun i i0 i1 => ?_, fun r r0 r1 => ?_⟩
  · change r < A.1 + 1 at r1
    show RX _ r A.2.1 (if r = A.1 then Z0 else A.2.2.2.1 r)
    by_cases z : r = A.1
    · rw [if_pos z]
      exact RX.zero (by rw [X _ (by omega)]; exact h5 r (by omega) (by omega))
    · rw [if_neg z]
      exact (h4 r r0 (by omega)).cg (X _ (by omega)) (fun i i0 i1 => X _ (by omega))
  · change A.1 + 1 ≤ r at r0
    rw [X _ (by omega)]
    exact h5 r (by omega) r1
  · change i < A.2.2.2.2.1 at i1
    rw [X _ (by omega)]
    exact h8 i i0 i1
  · change r < A.1 + 1 at r1
    have e9 : gv (sv (sv w (m + 9) A.1 c') (m + 3) 0 (A.1 + 1)) (m + 9) r = gv (sv w (m + 9) A.1 c') (m + 9) r := by rw [gvS, if_neg (by omega)]
    show nmR (if r = A.1 then c else A.2.2.1 r) _
    rw [e9]
    by_cases z : r = A.1
    · rw [if_pos z, z, gvSS]; exact hc
    · rw [if_neg z, gvS, if_neg (by omega)]; exact h9 r r0 (by omega)
theorem o_rowLn {A : Rm} (hM : MSh w m) (h : RdM w m t n most p) (hR : MRd w m A) (h0 : 0 ≤ p) (k : tkK t n most p = 2) : ∃ w', Ex pro (d + 4) 175 w [rV m] = some (some (iV (okR (rowLn t n most A p).1)), w') ∧ MSh w' m ∧ RdM w' m t n most (rowLn t n most A p).2.2.1 ∧ ((rowLn t n most A p).1 ≠ 0 → FlM w' m (rowLn t n most A p).1 (rowLn t n most A p).2.1) ∧ MRd w' m (rowLn t n most A p).2.2.2 ∧ Mf w w' (rP m) ∧ ((rowLn t n most A p).1 = 0 → gv w' m 10 = gv w m 10) := by
  have k10 := h.1.1.1
  have a15 := hM.2.2.2.1
  have a21 := hM.2.2.2.2.2.2.2.2.2.1
  have hA := hR.2.1
  have n94 := h.1.2.2.1
  have ti := tk_in (t := t) (n := n) (most := most) (p := p) (by omega)
  have i0 : kd w (m + 3) = 20 ∧ 0 ≤ (0 : Int) ∧ (0 : Int) < ln w (m + 3) := ⟨a15.2.1, by omega, by rw [a15.2.2]; omega⟩
  unfold rowLn
  by_cases c4 : A.1 < 4
  · rw [if_pos c4]
    obtain ⟨w1, a1, a2, a3⟩ := o_next (d := d + 1) h (by omega) h0
    have M1 := hM.mf a3 (fun j z => by omega)
    have R1 := hR.mf a3 (fun j => by omega) (fun j => by omega)
    have k1 := a2.1.1.1
    by_cases c : isNm t n most (tkT t n most p)
    · rw [if_pos c]
      have g12 := a2.2.2.2.2.1 c.1
      have b21 := M1.2.2.2.2.2.2.2.2.2.1
      have b15 := M1.2.2.2.1
      have fi := o_findIn (d := d + 2) (w := w1) (a := m + 9) (c := A.1) (v := tk27 t n most (tkT t n most p)) b21.2 hA
      have e : nmb (gv w1 (m + 9)) (tk27 t n most (tkT t n most p)) 0 A.1.toNat = rowN A t n most (tkT t n most p) := (nmb_nm (tk_word c.1).2.2.1 A.1.toNat 0 (fun x x0 x1 => R1.2.2.2.2.2.2.2.2 x x0 (by omega))).symm
      rw [e] at fi
      by_cases c1 : rowN A t n most (tkT t n most p) = -1
      · rw [if_pos c1]
        have m4 := Mf.svI w1 (m + 9) A.1 (tk27 t n most (tkT t n most p))
        have m5 := Mf.svI (sv w1 (m + 9) A.1 (tk27 t n most (tkT t n most p))) (m + 3) 0 (A.1 + 1)
        have m45 : Mf w1 (sv (sv w1 (m + 9) A.1 (tk27 t n most (tkT t n most p))) (m + 3) 0 (A.1 + 1)) (fun r j => r = m + 3 ∨ r = m + 9) := (m4.trans m5).mono (fun r j z => by omega)
        have R5 := R1.add c4 (tk_word c.1).2.2.1
        have D5 := a2.mf m45 (fun j z => by omega) (fun j => by omega)
        obtain ⟨w6, e1, e2, e3⟩ := o_next (d := d + 1) D5 (by omega) (by omega)
        have t2 := tk_in (t := t) (n := n) (most := most) (p := tkT t n most p) (by omega)
        obtain ⟨w', g1, g2, g3, g4, g5, g6, g7⟩ := l_mrowW (d := d) (r := A.1) (n := n) (most := most) (t := t) 940 (tkT t n most (tkT t n most p)) w6 _ (by omega) (by omega) ((M1.mf m45 (fun j z => by omega)).mf e3 (fun j z => by omega)) e2 (R5.mf e3 (fun j => by omega) (fun j => by omega)) ⟨hA.1, by show A.1 < A.1 + 1; omega⟩
        rw [addRow_at] at g1 g3 g4 g5 g7
        rw [setRow_add] at g5
        refine ⟨w', xX12_readRow (Rn.cut ?_ g1), g2, g3, g4, g5, ((a3.trans (m45.trans e3)).mono (Q := rP m) (fun r j z => by omega)).tr g6, fun z => by rw [g7 z, e3.gvE (by omega), m45.gvE (by omega), a3.gvE (by omega)]⟩
        have ks : kd (sv w1 (m + 9) A.1 (tk27 t n most (tkT t n most p))) m = 10 := k1
        have y15 : gv (sv w1 (m + 9) A.1 (tk27 t n most (tkT t n most p))) m 15 = m + 3 := by rw [m4.gvE (by omega)]; exact b15.1
        have y0 : gv (sv w1 (m + 9) A.1 (tk27 t n most (tkT t n most p))) (m + 3) 0 = A.1 := by rw [m4.gvE (by omega)]; exact R1.1.1
        have i3 : kd (sv w1 (m + 9) A.1 (tk27 t n most (tkT t n most p))) (m + 3) = 20 ∧ 0 ≤ (0 : Int) ∧ (0 : Int) < ln (sv w1 (m + 9) A.1 (tk27 t n most (tkT t n most p))) (m + 3) := ⟨b15.2.1, by omega, by rw [show ln (sv w1 (m + 9) A.1 (tk27 t n most (tkT t n most p))) (m + 3) = 2607 from b15.2.2]; omega⟩
        rw [eX12_readRow_0, if_pos k10, a15.1, if_pos i0, hR.1.1, if_neg (by omega), if_pos k10, if_pos i0, if_pos k10, a1]
        simp only [bN]
        rw [if_pos k1, o_isName a2]
        simp only [bI, ite10]
        rw [if_pos c, if_pos k1, if_pos k1, b21.1, g12, fi]
        simp only []
        rw [if_pos c1, if_pos k1, if_pos k1, b21.1, if_pos ⟨b21.2.1, hA.1, by rw [b21.2.2]; omega⟩, g12, wl_eq, if_pos ks, y15, if_pos i3, if_pos ⟨⟨i3.1, by have := hM.1.2; omega⟩, i3.2⟩, y0, w32_eq (by omega) (by omega), wl_eq, if_pos D5.1.1.1, e1]
      · rw [if_neg c1]
        obtain ⟨w2, b1, b2, b3, b4⟩ := o_bad (d := d + 2) a2 3
        rw [if_neg (by omega)] at b3
        refine ⟨w2, xX12_readRow (Rn.ret ?_), M1.mf b4 (fun j z => by omega), b2, fun _ => b3, R1.mf b4 (fun j => by omega) (fun j => by omega), (a3.trans b4).mono (fun r j z => by omega), fun z => by change (3 : Int) = 0 at z; omega⟩
        rw [eX12_readRow_0, if_pos k10, a15.1, if_pos i0, hR.1.1, if_neg (by omega), if_pos k10, if_pos i0, if_pos k10, a1]
        simp only [bN]
        rw [if_pos k1, o_isName a2]
        simp only [bI, ite10]
        rw [if_pos c, if_pos k1, if_pos k1, b21.1, g12, fi]
        simp only []
        rw [if_neg c1, if_pos k1, b1]
        simp only []
        rw [if_pos (Or.inl trivial)]
        rfl
    · rw [if_neg c]
      obtain ⟨w2, b1, b2, b3, b4⟩ := o_bad (d := d + 2) a2 1
      rw [show (if tkK t n most (tkT t n most p) = 1 then (1 : Int) else 1) = 1 by split <;> rfl] at b3
      refine ⟨w2, xX12_readRow (Rn.ret ?_), M1.mf b4 (fun j z => by omega), b2, fun _ => b3, R1.mf b4 (fun j => by omega) (fun j => by omega), (a3.trans b4).mono (fun r j z => by omega), fun z => by change (1 : Int) = 0 at z; omega⟩
      rw [eX12_readRow_0, if_pos k10, a15.1, if_pos i0, hR.1.1, if_neg (by omega), if_pos k10, if_pos i0, if_pos k10, a1]
      simp only [bN]
      rw [if_pos k1, o_isName a2]
      simp only [bI, ite10]
      rw [if_neg c, if_pos k1, b1]
      simp only []
      rw [if_pos (Or.inl trivial)]
      rfl
  · rw [if_neg c4]
    obtain ⟨w2, b1, b2, b3, b4⟩ := o_bad (d := d + 2) h 4
    rw [if_neg (by omega)] at b3
    refine ⟨w2, xX12_readRow (Rn.ret ?_), hM.mf b4 (fun j z => by omega), b2, fun _ => b3, hR.mf b4 (fun j => by omega) (fun j => by omega), b4.mono (fun r j z => by omega), fun z => by change (4 : Int) = 0 at z; omega⟩
    rw [eX12_readRow_0, if_pos k10, a15.1, if_pos i0, hR.1.1, if_pos (by omega), if_pos k10, b1]
    simp only [bI]
    rw [if_pos (Or.inl trivial)]
    rfl
end MB3
