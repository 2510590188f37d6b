/-! ===== readBookLine of the reference ===== -/
abbrev blM (m c r j : Int) : Prop := rdMm m r j ∨ (r = m + 13 ∧ 4 * c ≤ j ∧ j ≤ 4 * c + 3)
section MB2
variable {d : Nat} {w : sW} {m : Int} {t : Int → Int} {n most : Int} {A : Rm} {c p : Int}
theorem o_blineX (hM : MSh w m) (h : RdM w m t n most p) (hw : ¬ (4 ≤ tkW t n most p ∧ tkW t n most p ≤ 11)) : ∃ w', Ex pro (d + 5) 257 w [rV m] = some (some (iV 0), w') ∧ FlM w' m 1 (tkP t n most p) ∧ Mf w w' (blM m c) := by
  obtain ⟨w', a1, a2, a3, a4⟩ := o_bad (d := d + 3) h 1
  rw [show (if tkK t n most p = 1 then (1 : Int) else 1) = 1 by split <;> rfl] at a3
  have b : bW (tkW t n most p) 0 = -1 := if_neg (by omega)
  have b8 : bW (tkW t n most p) 8 = -1 := if_neg (by omega)
  have g : Rn (Ex pro (d + 4)) mX12_readBookLine (4, [some (rV m), some (iV (bW (tkW t n most p) 8)), some (iV 8), none], [], w) (some (iV 0), w') := by
    refine Rn.ret ?_
    rw [eX12_readBookLine_4, if_pos (by omega), if_pos b8, if_pos h.1.1.1, a1]
    simp only [bI]
    rw [if_pos (Or.inl trivial)]
  have g0 := l_blword (d := d) h 8 0 (by omega) (by omega) g
  rw [b] at g0
  refine ⟨w', xX12_readBookLine (Rn.cut ?_ g0), a3, a4.mono (fun r j z => by omega)⟩
  rw [eX12_readBookLine_0]
theorem o_bline4 (hM : MSh w m) (h : RdM w m t n most p) (hw : 4 ≤ tkW t n most p ∧ tkW t n most p ≤ 11) (hc : gv w m 32 = 40) : ∃ w', Ex pro (d + 5) 257 w [rV m] = some (some (iV 0), w') ∧ FlM w' m 4 (tkP t n most p) ∧ Mf w w' (blM m c) := by
  obtain ⟨w', a1, a2, a3, a4⟩ := o_bad (d := d + 3) h 4
  have k2 := (tkW_rg t n most p).2 (by omega)
  rw [if_neg (by omega)] at a3
  have b : bW (tkW t n most p) 0 = -1 := if_neg (by omega)
  have b8 : bW (tkW t n most p) 8 = tkW t n most p - 4 := if_pos (by omega)
  have g : Rn (Ex pro (d + 4)) mX12_readBookLine (4, [some (rV m), some (iV (bW (tkW t n most p) 8)), some (iV 8), none], [], w) (some (iV 0), w') := by
    refine Rn.ret ?_
    rw [eX12_readBookLine_4, if_pos (by omega), b8, if_neg (by omega), if_pos h.1.1.1, if_pos hc, if_pos h.1.1.1, a1]
    simp only [bI]
    rw [if_pos (Or.inl trivial)]
  have g0 := l_blword (d := d) h 8 0 (by omega) (by omega) g
  rw [b] at g0
  refine ⟨w', xX12_readBookLine (Rn.cut ?_ g0), a3, a4.mono (fun r j z => by omega)⟩
  rw [eX12_readBookLine_0]
theorem bkL_eq {S : Ts} {K : Int} (hK : 4 ≤ K ∧ K ≤ 11) :
    let S1 := if K ≤ 9 then stR t n most A S (-1) else (S, 0)
    let S2 := if K = 8 then (S1.1, 0) else stN t n most S1.1 0 999
    let S3 := blT t n most A S2.1 K S1.2
    (bkL t n most A S K).1 = S3.1 ∧ lnR (K, (bkL t n most A S K).2) = S1.2 ∧ lnI (K, (bkL t n most A S K).2) = S2.2 ∧ lnN (K, (bkL t n most A S K).2) = S3.2 := by
  have hk : K = 4 ∨ K = 5 ∨ K = 6 ∨ K = 7 ∨ K = 8 ∨ K = 9 ∨ K = 10 ∨ K = 11 := by omega
  rcases hk with z | z | z | z | z | z | z | z <;> subst z <;> simp [bkL, blT, thF, lnR, lnI, lnN]
/-- from the line's place on -/
abbrev blTN (C : sC) (m K c : Int) (w : sW) : Option sO :=
    if kd w m = 10 then
    bI (C 166 w [rV m, iV 0, iV 999]) (fun x14 w13 =>
    if kd w13 m = 10 then
    bI (C 254 w13 [rV m, iV (4 * c + 2), iV x14]) (fun x16 w15 =>
    if x16 = 0 then
     (some (.inr (some (iV 0), w15)))
    else
    some (.inl (137, [some (rV m), some (iV (K - 4)), some (iV (4 * c)), none], [], w15))) else none) else none
theorem l_blTN {S : Ts} {K a : Int} (hN : NmM w m A) (h : RsM w m t n most S) (hs : S.1 = 0) (hc : 0 ≤ c ∧ c ≤ 39) (hK : 4 ≤ K ∧ K ≤ 11) (ha : gv w (m + 13) (4 * c + 1) = a) : ∃ w', (∀ pc ls st w0, sg (Ex pro (d + 4)) mX12_readBookLine 2000 pc ls st w0 = blTN (Ex pro (d + 4)) m K c w → Rn (Ex pro (d + 4)) mX12_readBookLine (pc, ls, st, w0) (some (iV (okR (stS t n most (blT t n most A (stN t n most S 0 999).1 K a).1 59).1)), w')) ∧ RsM w' m t n most (stS t n most (blT t n most A (stN t n most S 0 999).1 K a).1 59) ∧ ((stS t n most (blT t n most A (stN t n most S 0 999).1 K a).1 59).1 = 0 → gv w' (m + 13) (4 * c + 2) = (stN t n most S 0 999).2 ∧ gv w' (m + 13) (4 * c + 3) = (blT t n most A (stN t n most S 0 999).1 K a).2) ∧ Mf w w' (fun r j => rdMm m r j ∨ (r = m + 13 ∧ (j = 4 * c + 2 ∨ j = 4 * c + 3))) := by
  have k := hN.1.1.1
  obtain ⟨w1, a1, a2, a3, a4⟩ := o_stN (d := d + 1) h hs 0 999
  have M1 := hN.mf a4 (fun j z => by omega) (by omega) (fun j => by omega)
  obtain ⟨w3, b1, b2, b3⟩ := o_keep (d := d + 3) (x := 4 * c + 2) M1.1 (by omega) (stN t n most S 0 999).1.1 a3
  have R3 := a2.mf b3 (fun j j0 j1 => by omega) (fun j => by omega)
  have m3 : Mf w w3 (fun r j => rdMm m r j ∨ (r = m + 13 ∧ j = 4 * c + 2)) := a4.trans b3
  by_cases z : (stN t n most S 0 999).1.1 = 0
  · have N3 := M1.mf b3 (fun j z => by omega) (by omega) (fun j => by omega)
    obtain ⟨w', g1, g2, g3, g4⟩ := l_bl137 (d := d) (a := a) N3 R3 z hc hK (by rw [m3.gvE (by omega)]; exact ha)
    refine ⟨w', fun pc ls st w0 e => Rn.cut ?_ g1, g2, fun y => ⟨by rw [g4.gvE (by omega)]; exact b2 z, g3 y⟩, (m3.trans g4).mono (fun r j z => by omega)⟩
    rw [e]
    unfold blTN
    rw [if_pos k, a1]
    simp only [bI]
    rw [if_pos M1.1.1.1, b1]
    simp only []
    rw [okR1 z, if_neg (by omega)]
  · have e3 : stS t n most (blT t n most A (stN t n most S 0 999).1 K a).1 59 = (stN t n most S 0 999).1 := by
      have : (blT t n most A (stN t n most S 0 999).1 K a).1 = (stN t n most S 0 999).1 := by
        unfold blT
        rw [stR_f z, stN_f z, stN_f z, stN_f z]
        split
        · rfl
        · split
          · rfl
          · split <;> rfl
      rw [this, stS_f z]
    rw [e3, okR0 z]
    refine ⟨w3, fun pc ls st w0 e => Rn.ret ?_, R3, fun y => absurd y z, m3.mono (fun r j z => by omega)⟩
    rw [e]
    unfold blTN
    rw [if_pos k, a1]
    simp only [bI]
    rw [if_pos M1.1.1.1, b1]
    simp only []
    rw [okR0 z, if_pos (by simp)]
theorem o_blineY (hN : NmM w m A) (h : RdM w m t n most p) (h10 : gv w m 10 = 0) (h0 : 0 ≤ p) (hw : 4 ≤ tkW t n most p ∧ tkW t n most p ≤ 11) (hc : 0 ≤ c ∧ c < 40) (h32 : gv w m 32 = c) : ∃ w', Ex pro (d + 5) 257 w [rV m] = some (some (iV (okR (bkS t n most A p).1)), w') ∧ RsM w' m t n most (bkS t n most A p) ∧ ((bkS t n most A p).1 = 0 → gv w' (m + 13) (4 * c) = tkW t n most p - 4 ∧ gv w' (m + 13) (4 * c + 1) = lnR (tkW t n most p, (bkL t n most A (0, 0, tkT t n most p) (tkW t n most p)).2) ∧ gv w' (m + 13) (4 * c + 2) = lnI (tkW t n most p, (bkL t n most A (0, 0, tkT t n most p) (tkW t n most p)).2) ∧ gv w' (m + 13) (4 * c + 3) = lnN (tkW t n most p, (bkL t n most A (0, 0, tkT t n most p) (tkW t n most p)).2)) ∧ Mf w w' (blM m c) := by
  have k := hN.1.1.1
  have m32 := hN.1.1.2
  have k2 := (tkW_rg t n most p).2 (by omega)
  have ti := tk_in (t := t) (n := n) (most := most) (p := p) (by omega)
  have q13 := hN.1.2.2.2.2.2.2.2.2.2.2.2.2.2.1
  have b : bW (tkW t n most p) 0 = -1 := if_neg (by omega)
  have b8 : bW (tkW t n most p) 8 = tkW t n most p - 4 := if_pos (by omega)
  unfold bkS
  generalize hK : tkW t n most p = K at hw b b8
  have be := bkL_eq (t := t) (n := n) (most := most) (A := A) (S := (0, 0, tkT t n most p)) hw
  simp only at be
  obtain ⟨e1, e2, e3, e4⟩ := be
  rw [e1, e2, e3, e4]
  clear e1 e2 e3 e4
  -- the first three cells, and on
  have m5 := Mf.svI w (m + 13) (4 * c) (K - 4)
  have m6 := Mf.svI (sv w (m + 13) (4 * c) (K - 4)) (m + 13) (4 * c + 1) 0
  have m7 := Mf.svI (sv (sv w (m + 13) (4 * c) (K - 4)) (m + 13) (4 * c + 1) 0) (m + 13) (4 * c + 2) 0
  have m57 : Mf w (sv (sv (sv w (m + 13) (4 * c) (K - 4)) (m + 13) (4 * c + 1) 0) (m + 13) (4 * c + 2) 0) (fun r j => r = m + 13 ∧ 4 * c ≤ j ∧ j ≤ 4 * c + 2) := (m5.trans (m6.trans m7)).mono (fun r j z => by omega)
  have v0 : gv (sv (sv (sv w (m + 13) (4 * c) (K - 4)) (m + 13) (4 * c + 1) 0) (m + 13) (4 * c + 2) 0) (m + 13) (4 * c) = K - 4 := by rw [m7.gvE (by omega), m6.gvE (by omega), gvSS]
  have v1 : gv (sv (sv (sv w (m + 13) (4 * c) (K - 4)) (m + 13) (4 * c + 1) 0) (m + 13) (4 * c + 2) 0) (m + 13) (4 * c + 1) = 0 := by rw [m7.gvE (by omega), gvSS]
  have v2 : gv (sv (sv (sv w (m + 13) (4 * c) (K - 4)) (m + 13) (4 * c + 1) 0) (m + 13) (4 * c + 2) 0) (m + 13) (4 * c + 2) = 0 := gvSS _ _ _ _
  have p5 : gv (sv w (m + 13) (4 * c) (K - 4)) m 30 = m + 13 := by rw [m5.gvE (by omega)]; exact q13.1
  have p6 : gv (sv (sv w (m + 13) (4 * c) (K - 4)) (m + 13) (4 * c + 1) 0) m 30 = m + 13 := by rw [m6.gvE (by omega)]; exact p5
  have k5 : kd (sv w (m + 13) (4 * c) (K - 4)) m = 10 := k
  have k6 : kd (sv (sv w (m + 13) (4 * c) (K - 4)) (m + 13) (4 * c + 1) 0) m = 10 := k
  have k7 : kd (sv (sv (sv w (m + 13) (4 * c) (K - 4)) (m + 13) (4 * c + 1) 0) (m + 13) (4 * c + 2) 0) m = 10 := k
  have i5 : kd (sv w (m + 13) (4 * c) (K - 4)) (m + 13) = 20 ∧ ln (sv w (m + 13) (4 * c) (K - 4)) (m + 13) = 160 := q13.2
  have i6 : kd (sv (sv w (m + 13) (4 * c) (K - 4)) (m + 13) (4 * c + 1) 0) (m + 13) = 20 ∧ ln (sv (sv w (m + 13) (4 * c) (K - 4)) (m + 13) (4 * c + 1) 0) (m + 13) = 160 := q13.2
  have w0 : w32 (4 * c) = 4 * c := w32_eq (by omega) (by omega)
  have w1' : w32 (4 * c + 1) = 4 * c + 1 := w32_eq (by omega) (by omega)
  have w2' : w32 (4 * c + 2) = 4 * c + 2 := w32_eq (by omega) (by omega)
  have R7 := h.mf m57 (fun j z => by omega) (fun j => by omega)
  have N7 := hN.mf m57 (fun j z => by omega) (by omega) (fun j => by omega)
  obtain ⟨w8, a1, a2, a3⟩ := o_next (d := d + 2) R7 (by omega) h0
  have head : ∀ res, (∀ (g : Rn (Ex pro (d + 4)) mX12_readBookLine (4, [some (rV m), some (iV (K - 4)), some (iV 8), none], [], w) res), Ex pro (d + 5) 257 w [rV m] = some res) := fun res g => by
    rw [← b8, ← hK] at g
    have g0 := l_blword (d := d) h 8 0 (by omega) (by omega) g
    rw [hK, b] at g0
    refine xX12_readBookLine (Rn.cut ?_ g0)
    rw [eX12_readBookLine_0]
  have eq : sg (Ex pro (d + 4)) mX12_readBookLine 2000 4 [some (rV m), some (iV (K - 4)), some (iV 8), none] [] w = if K - 4 < 6 then
    (if kd w8 m = 10 then
    bI (Ex pro (d + 4) 255 w8 [rV m]) (fun x10 w9 =>
    if kd w9 m = 10 then
    bI (Ex pro (d + 4) 254 w9 [rV m, iV (4 * c + 1), iV x10]) (fun x12 w11 =>
    if x12 = 0 then
     (some (.inr (some (iV 0), w11)))
    else
    if K - 4 = 4 then
     (some (.inl (137, [some (rV m), some (iV (K - 4)), some (iV (4 * c)), none], [], w11)))
    else blTN (Ex pro (d + 4)) m K c w11) else none) else none)
    else if K - 4 = 4 then (some (.inl (137, [some (rV m), some (iV (K - 4)), some (iV (4 * c)), none], [], w8)))
    else blTN (Ex pro (d + 4)) m K c w8 := by
    rw [eX12_readBookLine_4, if_pos (by omega), if_neg (by omega), if_pos k, if_neg (by omega), if_pos k, if_pos k, h32, w0, w1', w2', q13.1, if_pos ⟨⟨q13.2.1, by omega⟩, by omega, by rw [q13.2.2]; omega⟩, wl_eq, if_pos k5, p5, if_pos ⟨⟨i5.1, by omega⟩, by omega, by rw [i5.2]; omega⟩, wl_eq, if_pos k6, p6, if_pos ⟨⟨i6.1, by omega⟩, by omega, by rw [i6.2]; omega⟩, wl_eq, if_pos k7, a1]
    rfl
  generalize sv (sv (sv w (m + 13) (4 * c) (K - 4)) (m + 13) (4 * c + 1) 0) (m + 13) (4 * c + 2) 0 = w7 at m57 v0 v1 v2 k7 R7 N7 a1 a3
  clear m5 m6 m7
  have m8 : Mf w w8 (blM m c) := (m57.trans a3).mono (fun r j z => by omega)
  have N8 := N7.mf a3 (fun j z => by omega) (by omega) (fun j => by omega)
  have R8 : RsM w8 m t n most (0, 0, tkT t n most p) := ⟨fun _ => ⟨a2, rfl, by show 0 ≤ tkT t n most p; omega, by rw [a3.gvE (by omega), m57.gvE (by omega)]; exact h10⟩, fun z => absurd rfl z⟩
  have u0 : gv w8 (m + 13) (4 * c) = K - 4 := by rw [a3.gvE (by omega)]; exact v0
  have u1 : gv w8 (m + 13) (4 * c + 1) = 0 := by rw [a3.gvE (by omega)]; exact v1
  have u2 : gv w8 (m + 13) (4 * c + 2) = 0 := by rw [a3.gvE (by omega)]; exact v2
  by_cases c9 : K ≤ 9
  · rw [if_pos c9]
    obtain ⟨w9, f1, f2, f3, f4⟩ := o_stR (d := d) R8 rfl N8
    have N9 := N8.mf f4 (fun j z => by omega) (by omega) (fun j => by omega)
    obtain ⟨w11, g1, g2, g3⟩ := o_keep (d := d + 3) (x := 4 * c + 1) N9.1 (by omega) (stR t n most A (0, 0, tkT t n most p) (-1)).1.1 f3
    have R11 := f2.mf g3 (fun j j0 j1 => by omega) (fun j => by omega)
    have N11 := N9.mf g3 (fun j z => by omega) (by omega) (fun j => by omega)
    have m11 : Mf w8 w11 (fun r j => rdMm m r j ∨ (r = m + 13 ∧ j = 4 * c + 1)) := f4.trans g3
    generalize hS1 : stR t n most A (0, 0, tkT t n most p) (-1) = S1 at f1 f2 f3 g1 g2 R11
    by_cases z : S1.1.1 = 0
    · have eq2 : sg (Ex pro (d + 4)) mX12_readBookLine 2000 4 [some (rV m), some (iV (K - 4)), some (iV 8), none] [] w = if K - 4 = 4 then (some (.inl (137, [some (rV m), some (iV (K - 4)), some (iV (4 * c)), none], [], w11))) else blTN (Ex pro (d + 4)) m K c w11 := by
        rw [eq, if_pos (by omega), if_pos N8.1.1.1, f1]
        simp only [bI]
        rw [if_pos N9.1.1.1, g1]
        simp only []
        rw [okR1 z, if_neg (by omega)]
      by_cases c8 : K = 8
      · rw [if_pos c8]
        obtain ⟨w', x1, x2, x3, x4⟩ := l_bl137 (d := d) (a := S1.2) N11 R11 z (by omega) hw (g2 z)
        refine ⟨w', head _ (Rn.cut (by rw [eq2, if_pos (by omega)]) x1), x2, fun y => ⟨?_, ?_, ?_, x3 y⟩, ((m8.trans m11).trans x4).mono (fun r j z => by omega)⟩
        · rw [x4.gvE (by omega), m11.gvE (by omega)]; exact u0
        · rw [x4.gvE (by omega)]; exact g2 z
        · rw [x4.gvE (by omega), m11.gvE (by omega)]; exact u2
      · rw [if_neg c8]
        obtain ⟨w', x1, x2, x3, x4⟩ := l_blTN (d := d) (a := S1.2) N11 R11 z (by omega) hw (g2 z)
        refine ⟨w', head _ (x1 _ _ _ _ (by rw [eq2, if_neg (by omega)])), x2, fun y => ⟨?_, ?_, (x3 y).1, (x3 y).2⟩, ((m8.trans m11).trans x4).mono (fun r j z => by omega)⟩
        · rw [x4.gvE (by omega), m11.gvE (by omega)]; exact u0
        · rw [x4.gvE (by omega)]; exact g2 z
    · have e3 : stS t n most (blT t n most A (if K = 8 then (S1.1, 0) else stN t n most S1.1 0 999).1 K S1.2).1 59 = S1.1 := by
        have : (if K = 8 then (S1.1, 0) else stN t n most S1.1 0 999).1 = S1.1 := by
          rw [stN_f z]
          split <;> rfl
        rw [this]
        have : (blT t n most A S1.1 K S1.2).1 = S1.1 := by
          unfold blT
          rw [stR_f z, stN_f z, stN_f z, stN_f z]
          split
          · rfl
          · split
            · rfl
            · split <;> rfl
        rw [this, stS_f z]
      rw [e3, okR0 z]
      refine ⟨w11, head _ (Rn.ret ?_), R11, fun y => absurd y z, (m8.trans m11).mono (fun r j z => by omega)⟩
      rw [eq, if_pos (by omega), if_pos N8.1.1.1, f1]
      simp only [bI]
      rw [if_pos N9.1.1.1, g1]
      simp only []
      rw [okR0 z, if_pos (by simp)]
  · rw [if_neg c9, if_neg (by omega)]
    obtain ⟨w', x1, x2, x3, x4⟩ := l_blTN (d := d) (a := 0) N8 R8 rfl (by omega) hw u1
    refine ⟨w', head _ (x1 _ _ _ _ (by rw [eq, if_neg (by omega), if_neg (by omega)])), x2, fun y => ⟨?_, ?_, (x3 y).1, (x3 y).2⟩, (m8.trans x4).mono (fun r j z => by omega)⟩
    · rw [x4.gvE (by omega)]; exact u0
    · rw [x4.gvE (by omega)]; exact u1
end MB2
