/-! ===== takes of the reference in one form ===== -/
/-- the reference's reader stands so -/
def RsM (w : sW) (m : Int) (t : Int → Int) (n most : Int) (S : Ts) : Prop := (S.1 = 0 → RdM w m t n most S.2.2 ∧ S.2.1 = 0 ∧ 0 ≤ S.2.2 ∧ gv w m 10 = 0) ∧ (S.1 ≠ 0 → FlM w m S.1 S.2.1)
/-- the names of the room, as the reference has them -/
def NmM (w : sW) (m : Int) (A : Rm) : Prop := MSh w m ∧ gv w (m + 2) 0 = A.1 ∧ (0 ≤ A.1 ∧ A.1 ≤ 4) ∧ ∀ r, 0 ≤ r → r < A.1 → nmR (A.2.2.1 r) (gv w (m + 8) r)
theorem NmM.mf {w w' : sW} {m : Int} {A : Rm} {P : Int → Int → Prop} (h : NmM w m A) (g : Mf w w' P) (h1 : ∀ j, ptF j → ¬ P m j) (h2 : ¬ P (m + 2) 0) (h3 : ∀ j, ¬ P (m + 8) j) : NmM w' m A :=
  ⟨h.1.mf g h1, by rw [g.gvE h2]; exact h.2.1, h.2.2.1, fun r r0 r1 => by rw [g.gvE (h3 r)]; exact h.2.2.2 r r0 r1⟩
theorem RsM.mf {w w' : sW} {m : Int} {t : Int → Int} {n most : Int} {S : Ts} {P : Int → Int → Prop} (h : RsM w m t n most S) (g : Mf w w' P) (h1 : ∀ j, 1 ≤ j → j ≤ 12 → ¬ P m j) (h2 : ∀ j, ¬ P (m + 1) j) : RsM w' m t n most S :=
  ⟨fun z => ⟨(h.1 z).1.mf g (fun j y => h1 j y.1 y.2.1) h2, (h.1 z).2.1, (h.1 z).2.2.1, by rw [g.gvE (h1 _ (by omega) (by omega))]; exact (h.1 z).2.2.2⟩, fun z => ⟨by rw [g.gvE (h1 _ (by omega) (by omega))]; exact (h.2 z).1, by rw [g.gvE (h1 _ (by omega) (by omega))]; exact (h.2 z).2⟩⟩
theorem stN_f {t : Int → Int} {n most a b : Int} {S : Ts} (h : S.1 ≠ 0) : stN t n most S a b = (S, -1) := by unfold stN; rw [if_neg h]
theorem stR_f {t : Int → Int} {n most a : Int} {A : Rm} {S : Ts} (h : S.1 ≠ 0) : stR t n most A S a = (S, -1) := by unfold stR; rw [if_neg h]
theorem stS_f {t : Int → Int} {n most c : Int} {S : Ts} (h : S.1 ≠ 0) : stS t n most S c = S := by unfold stS; rw [if_neg h]
section MT
variable {d : Nat} {w : sW} {m : Int} {t : Int → Int} {n most : Int} {S : Ts} {A : Rm}
theorem o_stN (h : RsM w m t n most S) (hs : S.1 = 0) (a b : Int) : ∃ w', Ex pro (d + 3) 166 w [rV m, iV a, iV b] = some (some (iV (okR (stN t n most S a b).1.1)), w') ∧ RsM w' m t n most (stN t n most S a b).1 ∧ ((stN t n most S a b).1.1 = 0 → gv w' m 13 = (stN t n most S a b).2) ∧ Mf w w' (rdMm m) := by
  obtain ⟨h1, h2, h3, h4⟩ := h.1 hs
  unfold stN
  rw [if_pos hs]
  by_cases y : atN t n most S.2.2 a b
  · rw [if_pos y]
    have ti := tk_in (t := t) (n := n) (most := most) (p := S.2.2) (by omega)
    obtain ⟨w', a1, a2, a3, a4, a5⟩ := o_numY (d := d) h1 h3 y
    exact ⟨w', a1, ⟨fun _ => ⟨a2, h2, by show 0 ≤ tkT t n most S.2.2; omega, by rw [a4]; exact h4⟩, fun z => absurd rfl z⟩, fun _ => a3, a5⟩
  · rw [if_neg y]
    have nz : whyNm t n most S.2.2 ≠ 0 := by unfold whyNm; split <;> omega
    obtain ⟨w', a1, a2, a3, a4⟩ := o_numN (d := d) h1 y
    refine ⟨w', ?_, ⟨fun z => absurd z nz, fun _ => a3⟩, fun z => absurd z nz, a4⟩
    rw [a1]
    show _ = some (some (iV (if whyNm t n most S.2.2 = 0 then 1 else 0)), w')
    rw [if_neg nz]
theorem o_stS (h : RsM w m t n most S) (hs : S.1 = 0) : ∃ w', Ex pro (d + 3) 167 w [rV m] = some (some (iV (okR (stS t n most S 59).1)), w') ∧ RsM w' m t n most (stS t n most S 59) ∧ Mf w w' (rdMm m) := by
  obtain ⟨h1, h2, h3, h4⟩ := h.1 hs
  unfold stS
  rw [if_pos hs]
  by_cases y : atS t n most S.2.2 59
  · rw [if_pos y]
    have ti := tk_in (t := t) (n := n) (most := most) (p := S.2.2) (by omega)
    obtain ⟨w', a1, a2, a3, a4⟩ := o_endY (d := d) h1 h3 y
    exact ⟨w', a1, ⟨fun _ => ⟨a2, h2, by show 0 ≤ tkT t n most S.2.2; omega, by rw [a3]; exact h4⟩, fun z => absurd rfl z⟩, a4⟩
  · rw [if_neg y]
    obtain ⟨w', a1, a2, a3, a4⟩ := o_endN (d := d) h1 y
    exact ⟨w', a1, ⟨fun z => absurd (show (1 : Int) = 0 from z) (by omega), fun _ => a3⟩, a4⟩
theorem NmM.row (hN : NmM w m A) {p : Int} (c : tkK t n most p = 2) : nmb (gv w (m + 8)) (tk27 t n most p) 0 A.1.toNat = rowN A t n most p := (nmb_nm (tk_word c).2.2.1 A.1.toNat 0 (fun x x0 x1 => hN.2.2.2 x x0 (by omega))).symm
theorem o_stR (h : RsM w m t n most S) (hs : S.1 = 0) (hN : NmM w m A) : ∃ w', Ex pro (d + 4) 255 w [rV m] = some (some (iV (okR (stR t n most A S (-1)).1.1)), w') ∧ RsM w' m t n most (stR t n most A S (-1)).1 ∧ ((stR t n most A S (-1)).1.1 = 0 → gv w' m 13 = (stR t n most A S (-1)).2) ∧ Mf w w' (rdMm m) := by
  obtain ⟨h1, h2, h3, h4⟩ := h.1 hs
  have k := h1.1.1.1
  have q8 := hN.1.2.2.2.2.2.2.2.2.1
  have q2 := hN.1.2.2.1
  unfold stR
  rw [if_pos hs]
  by_cases c : isNm t n most S.2.2
  · have fi := o_findIn (d := d + 2) (w := w) (a := m + 8) (c := A.1) (v := tk27 t n most S.2.2) q8.2 hN.2.2.1
    rw [hN.row c.1] at fi
    have g12 := h1.2.2.2.2.1 c.1
    have ti := tk_in (t := t) (n := n) (most := most) (p := S.2.2) (by omega)
    have m1 := Mf.svI w m 13 (rowN A t n most S.2.2)
    have R1 : RdM (sv w m 13 (rowN A t n most S.2.2)) m t n most S.2.2 := h1.mf m1 (fun j hj => by omega) (fun j => by omega)
    have x13 : gv (sv w m 13 (rowN A t n most S.2.2)) m 13 = rowN A t n most S.2.2 := gvSS _ _ _ _
    have k1 : kd (sv w m 13 (rowN A t n most S.2.2)) m = 10 := k
    by_cases y : rowN A t n most S.2.2 = -1
    · rw [if_neg (fun z => z.2.1 y), if_pos c]
      obtain ⟨w', a1, a2, a3, a4⟩ := o_bad (d := d + 2) R1 3
      rw [if_neg (by have := c.1; omega)] at a3
      refine ⟨w', xX12_readRowName (Rn.ret ?_), ⟨fun z => absurd (show (3 : Int) = 0 from z) (by omega), fun _ => a3⟩, fun z => absurd (show (3 : Int) = 0 from z) (by omega), (m1.trans a4).mono (fun r j z => by omega)⟩
      rw [eX12_readRowName_0, if_pos k, o_isName h1]
      simp only [bI, ite10]
      rw [if_pos c, if_pos k, if_pos k, q2.1, if_pos ⟨q2.2.1, by omega, by rw [q2.2.2]; omega⟩, if_pos k, q8.1, hN.2.1, g12, fi]
      simp only []
      rw [if_pos k, wl_eq, if_pos k1, x13, if_pos y, if_pos k1, a1]
      simp only []
      rw [if_pos (Or.inl trivial)]
      rfl
    · rw [if_pos ⟨c, y, y⟩]
      obtain ⟨w', a1, a2, a3⟩ := o_next (d := d + 1) R1 (by have := c.1; omega) h3
      refine ⟨w', xX12_readRowName (Rn.ret ?_), ⟨fun _ => ⟨a2, h2, by show 0 ≤ tkT t n most S.2.2; have := c.1; omega, by rw [a3.gvE (by omega), m1.gvE (by omega)]; exact h4⟩, fun z => absurd rfl z⟩, fun _ => by rw [a3.gvE (by omega)]; exact x13, (m1.trans a3).mono (fun r j z => by omega)⟩
      rw [eX12_readRowName_0, if_pos k, o_isName h1]
      simp only [bI, ite10]
      rw [if_pos c, if_pos k, if_pos k, q2.1, if_pos ⟨q2.2.1, by omega, by rw [q2.2.2]; omega⟩, if_pos k, q8.1, hN.2.1, g12, fi]
      simp only []
      rw [if_pos k, wl_eq, if_pos k1, x13, if_neg y, if_pos k1, a1]
      simp only [bN]
      rfl
  · rw [if_neg (fun z => c z.1), if_neg c]
    obtain ⟨w', a1, a2, a3, a4⟩ := o_bad (d := d + 2) h1 1
    rw [show (if tkK t n most S.2.2 = 1 then (1 : Int) else 1) = 1 by split <;> rfl] at a3
    refine ⟨w', xX12_readRowName (Rn.ret ?_), ⟨fun z => absurd (show (1 : Int) = 0 from z) (by omega), fun _ => a3⟩, fun z => absurd (show (1 : Int) = 0 from z) (by omega), a4.mono (fun r j z => by omega)⟩
    rw [eX12_readRowName_0, if_pos k, o_isName h1]
    simp only [bI, ite10]
    rw [if_neg c, if_pos k, a1]
    simp only []
    rw [if_pos (Or.inl trivial)]
    rfl
/-- another row than the first of the line -/
theorem o_other {c a : Int} (h : RsM w m t n most S) (hs : S.1 = 0) (hN : NmM w m A) (hc : 0 ≤ c ∧ c ≤ 39) (ha : gv w (m + 13) (4 * c + 1) = a) : ∃ w', Ex pro (d + 4) 256 w [rV m, iV (4 * c)] = some (some (iV (okR (stR t n most A S a).1.1)), w') ∧ RsM w' m t n most (stR t n most A S a).1 ∧ ((stR t n most A S a).1.1 = 0 → gv w' (m + 13) (4 * c + 3) = (stR t n most A S a).2) ∧ Mf w w' (fun r j => rdMm m r j ∨ (r = m + 13 ∧ j = 4 * c + 3)) := by
  obtain ⟨h1, h2, h3, h4⟩ := h.1 hs
  have k := h1.1.1.1
  have m32 := hN.1.1.2
  have q8 := hN.1.2.2.2.2.2.2.2.2.1
  have q2 := hN.1.2.2.1
  have q13 := hN.1.2.2.2.2.2.2.2.2.2.2.2.2.2.1
  unfold stR
  rw [if_pos hs]
  have b3 : w32 (4 * c + 3) = 4 * c + 3 := w32_eq (by omega) (by omega)
  have b1 : w32 (4 * c + 1) = 4 * c + 1 := w32_eq (by omega) (by omega)
  by_cases y0 : isNm t n most S.2.2
  · have fi := o_findIn (d := d + 2) (w := w) (a := m + 8) (c := A.1) (v := tk27 t n most S.2.2) q8.2 hN.2.2.1
    rw [hN.row y0.1] at fi
    have g12 := h1.2.2.2.2.1 y0.1
    have ti := tk_in (t := t) (n := n) (most := most) (p := S.2.2) (by omega)
    have m1 := Mf.svI w (m + 13) (4 * c + 3) (rowN A t n most S.2.2)
    have R1 : RdM (sv w (m + 13) (4 * c + 3) (rowN A t n most S.2.2)) m t n most S.2.2 := h1.mf m1 (fun j hj => by omega) (fun j => by omega)
    have x13 : gv (sv w (m + 13) (4 * c + 3) (rowN A t n most S.2.2)) (m + 13) (4 * c + 3) = rowN A t n most S.2.2 := gvSS _ _ _ _
    have xa : gv (sv w (m + 13) (4 * c + 3) (rowN A t n most S.2.2)) (m + 13) (4 * c + 1) = a := by rw [m1.gvE (by omega)]; exact ha
    have k1 : kd (sv w (m + 13) (4 * c + 3) (rowN A t n most S.2.2)) m = 10 := k
    have p1 : gv (sv w (m + 13) (4 * c + 3) (rowN A t n most S.2.2)) m 30 = m + 13 := by rw [m1.gvE (by omega)]; exact q13.1
    have kk : kd (sv w (m + 13) (4 * c + 3) (rowN A t n most S.2.2)) (m + 13) = 20 := q13.2.1
    have ll : ln (sv w (m + 13) (4 * c + 3) (rowN A t n most S.2.2)) (m + 13) = 160 := q13.2.2
    by_cases y : rowN A t n most S.2.2 = -1
    · rw [if_neg (fun z => z.2.1 y), if_pos y0]
      obtain ⟨w', a1, a2, a3, a4⟩ := o_bad (d := d + 2) R1 3
      rw [if_neg (by have := y0.1; omega)] at a3
      refine ⟨w', xX12_readOther (Rn.ret ?_), ⟨fun z => absurd (show (3 : Int) = 0 from z) (by omega), fun _ => a3⟩, fun z => absurd (show (3 : Int) = 0 from z) (by omega), (m1.trans a4).mono (fun r j z => by omega)⟩
      rw [eX12_readOther_0, if_pos k, o_isName h1]
      simp only [bI, ite10]
      rw [if_pos y0, if_pos k, if_pos k, if_pos k, q2.1, if_pos ⟨q2.2.1, by omega, by rw [q2.2.2]; omega⟩, if_pos k, q8.1, hN.2.1, g12, fi]
      simp only []
      rw [q13.1, b3, if_pos ⟨⟨q13.2.1, by omega⟩, by omega, by rw [q13.2.2]; omega⟩, wl_eq, if_pos k1, p1, if_pos ⟨kk, by omega, by rw [ll]; omega⟩, x13, if_pos y, if_pos k1, a1]
      simp only []
      rw [if_pos (Or.inl trivial)]
      rfl
    · by_cases ya : rowN A t n most S.2.2 = a
      · rw [if_neg (fun z => z.2.2 ya), if_pos y0]
        obtain ⟨w', a1, a2, a3, a4⟩ := o_bad (d := d + 2) R1 3
        rw [if_neg (by have := y0.1; omega)] at a3
        refine ⟨w', xX12_readOther (Rn.ret ?_), ⟨fun z => absurd (show (3 : Int) = 0 from z) (by omega), fun _ => a3⟩, fun z => absurd (show (3 : Int) = 0 from z) (by omega), (m1.trans a4).mono (fun r j z => by omega)⟩
        rw [eX12_readOther_0, if_pos k, o_isName h1]
        simp only [bI, ite10]
        rw [if_pos y0, if_pos k, if_pos k, if_pos k, q2.1, if_pos ⟨q2.2.1, by omega, by rw [q2.2.2]; omega⟩, if_pos k, q8.1, hN.2.1, g12, fi]
        simp only []
        rw [q13.1, b3, b1, if_pos ⟨⟨q13.2.1, by omega⟩, by omega, by rw [q13.2.2]; omega⟩, wl_eq, if_pos k1, p1, if_pos ⟨kk, by omega, by rw [ll]; omega⟩, x13, if_neg y, if_pos k1, if_pos ⟨kk, by omega, by rw [ll]; omega⟩, if_pos k1, if_pos ⟨kk, by omega, by rw [ll]; omega⟩, xa, if_pos ya, if_pos k1, a1]
        simp only []
        rw [if_pos (Or.inl trivial)]
        rfl
      · rw [if_pos ⟨y0, y, ya⟩]
        obtain ⟨w', a1, a2, a3⟩ := o_next (d := d + 1) R1 (by have := y0.1; omega) h3
        refine ⟨w', xX12_readOther (Rn.ret ?_), ⟨fun _ => ⟨a2, h2, by show 0 ≤ tkT t n most S.2.2; have := y0.1; omega, by rw [a3.gvE (by omega), m1.gvE (by omega)]; exact h4⟩, fun z => absurd rfl z⟩, fun _ => by rw [a3.gvE (by omega)]; exact x13, (m1.trans a3).mono (fun r j z => by omega)⟩
        rw [eX12_readOther_0, if_pos k, o_isName h1]
        simp only [bI, ite10]
        rw [if_pos y0, if_pos k, if_pos k, if_pos k, q2.1, if_pos ⟨q2.2.1, by omega, by rw [q2.2.2]; omega⟩, if_pos k, q8.1, hN.2.1, g12, fi]
        simp only []
        rw [q13.1, b3, b1, if_pos ⟨⟨q13.2.1, by omega⟩, by omega, by rw [q13.2.2]; omega⟩, wl_eq, if_pos k1, p1, if_pos ⟨kk, by omega, by rw [ll]; omega⟩, x13, if_neg y, if_pos k1, if_pos ⟨kk, by omega, by rw [ll]; omega⟩, if_pos k1, if_pos ⟨kk, by omega, by rw [ll]; omega⟩, xa, if_neg ya, if_pos k1, a1]
        simp only [bN]
        rfl
  · rw [if_neg (fun z => y0 z.1), if_neg y0]
    obtain ⟨w', a1, a2, a3, a4⟩ := o_bad (d := d + 2) h1 1
    rw [show (if tkK t n most S.2.2 = 1 then (1 : Int) else 1) = 1 by split <;> rfl] at a3
    refine ⟨w', xX12_readOther (Rn.ret ?_), ⟨fun z => absurd (show (1 : Int) = 0 from z) (by omega), fun _ => a3⟩, fun z => absurd (show (1 : Int) = 0 from z) (by omega), a4.mono (fun r j z => by omega)⟩
    rw [eX12_readOther_0, if_pos k, o_isName h1]
    simp only [bI, ite10]
    rw [if_neg y0, if_pos k, a1]
    simp only []
    rw [if_pos (Or.inl trivial)]
    rfl
/-- a number told is kept in the line -/
theorem o_keep {x v : Int} (hM : MSh w m) (hx : 0 ≤ x ∧ x < 160) (e : Int) (hv : e = 0 → gv w m 13 = v) : ∃ w', Ex pro (d + 1) 254 w [rV m, iV x, iV (okR e)] = some (some (iV (okR e)), w') ∧ (e = 0 → gv w' (m + 13) x = v) ∧ Mf w w' (fun r j => r = m + 13 ∧ j = x) := by
  have k := hM.1.1
  have q13 := hM.2.2.2.2.2.2.2.2.2.2.2.2.2.1
  by_cases z : e = 0
  · have z1 : okR e = 1 := if_pos z
    rw [z1]
    refine ⟨sv w (m + 13) x v, xX12_keep (Rn.ret ?_), fun _ => gvSS _ _ _ _, Mf.svI _ _ _ _⟩
    rw [eX12_keep_0, if_neg (by omega), if_pos k, if_pos k, q13.1, if_pos ⟨⟨q13.2.1, by have := hM.1.2; omega⟩, hx.1, by rw [q13.2.2]; omega⟩, hv z, wl_eq, if_pos (Or.inr rfl)]
  · have z1 : okR e = 0 := if_neg z
    rw [z1]
    refine ⟨w, xX12_keep (Rn.ret ?_), fun y => absurd y z, Mf.refl _ _⟩
    rw [eX12_keep_0, if_pos rfl, if_pos (Or.inl rfl)]
end MT
