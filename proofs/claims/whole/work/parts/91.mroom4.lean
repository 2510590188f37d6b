/-! ===== leaf lines and letters lines: the reference ===== -/
theorem MRd.sign {w : sW} {m v : Int} {A : Rm} (h : MRd w m A) (hn : A.2.2.2.2.1 < 200) (hv : 0 ≤ v ∧ v < 8) : MRd (sv (sv w (m + 3) (7 + A.2.2.2.2.1) v) (m + 3) 6 (A.2.2.2.2.1 + 1)) m (setLet A (insT A.2.2.2.2 A.2.2.2.2.1 v)) := by
  obtain ⟨h1, h2, h3, h4, h5, h6, h7, h8, h9⟩ := h
  have X : ∀ j, gv (sv (sv w (m + 3) (7 + A.2.2.2.2.1) v) (m + 3) 6 (A.2.2.2.2.1 + 1)) (m + 3) j = if j = 6 then A.2.2.2.2.1 + 1 else if j = 7 + A.2.2.2.2.1 then v else gv w (m + 3) j := fun j => by
    rw [gvS, gvS]
    by_cases c : j = 6
    · rw [if_pos ⟨rfl, c⟩, if_pos c]
    · rw [if_neg (fun z => c z.2), if_neg c]
      by_cases e : j = 7 + A.2.2.2.2.1
      · rw [if_pos ⟨rfl, e⟩, if_pos e]
      · rw [if_neg (fun z => e z.2), if_neg e]
  have X9 : ∀ j, gv (sv (sv w (m + 3) (7 + A.2.2.2.2.1) v) (m + 3) 6 (A.2.2.2.2.1 + 1)) (m + 9) j = gv w (m + 9) j := fun j => by
    rw [gvS, if_neg (by omega), gvS, if_neg (by omega)]
  refine ⟨⟨?_, ?_⟩, h2, h3, fun r r0 r1 => ?_, fun r r0 r1 => ?_, ?_, ⟨by show 0 ≤ A.2.2.2.2.1 + 1; omega, by show A.2.2.2.2.1 + 1 ≤ 200; omega⟩, fun i i0 i1 => ?_, fun r r0 r1 => ?_⟩
  · rw [X, if_neg (by omega), if_neg (by omega)]; exact h1.1
  · rw [X, if_neg (by omega), if_neg (by omega)]; exact h1.2
  · change r < A.1 at r1
    refine (h4 r r0 r1).cg ?_ (fun i i0 i1 => ?_)
    · rw [X, if_neg (by omega), if_neg (by omega)]
    · rw [X, if_neg (by omega), if_neg (by omega)]
  · change A.1 ≤ r at r0
    rw [X, if_neg (by omega), if_neg (by omega)]
    exact h5 r r0 r1
  · rw [X, if_pos rfl]; rfl
  · change i < A.2.2.2.2.1 + 1 at i1
    show _ = insB A.2.2.2.2.2 A.2.2.2.2.1 v i ∧ 0 ≤ insB A.2.2.2.2.2 A.2.2.2.2.1 v i ∧ insB A.2.2.2.2.2 A.2.2.2.2.1 v i < 8
    have e : insB A.2.2.2.2.2 A.2.2.2.2.1 v i = if i = A.2.2.2.2.1 then v else A.2.2.2.2.2 i := by
      unfold insB
      grind
    rw [e, X, if_neg (by omega)]
    by_cases z : i = A.2.2.2.2.1
    · rw [if_pos (by omega), if_pos z]; exact ⟨rfl, hv⟩
    · rw [if_neg (by omega), if_neg z]; exact h8 i i0 (by omega)
  · change r < A.1 at r1
    rw [X9]; exact h9 r r0 r1
theorem MRd.low {w : sW} {m l : Int} {A : Rm} (h : MRd w m A) (hA : A.1 = 0) (hl : 4 ≤ l ∧ l ≤ 32) : MRd (sv w (m + 3) 1 l) m (setLow A l) := by
  obtain ⟨h1, h2, h3, h4, h5, h6, h7, h8, h9⟩ := h
  have X : ∀ j, j ≠ 1 → gv (sv w (m + 3) 1 l) (m + 3) j = gv w (m + 3) j := fun j hj => by
    rw [gvS, if_neg (fun z => hj z.2)]
  refine ⟨⟨by rw [X 0 (by omega)]; exact h1.1, gvSS _ _ _ _⟩, h2, hl, fun r r0 r1 => ?_, fun r r0 r1 => ?_, by rw [X 6 (by omega)]; exact h6, h7, fun i i0 i1 => ?_, fun r r0 r1 => ?_⟩
  · change r < A.1 at r1; omega
  · change A.1 ≤ r at r0
    rw [X _ (by omega)]; exact h5 r r0 r1
  · change i < A.2.2.2.2.1 at i1
    rw [X _ (by omega)]; exact h8 i i0 i1
  · change r < A.1 at r1; omega
section MB4
variable {d : Nat} {w : sW} {m : Int} {t : Int → Int} {n most p : Int}
theorem o_leafLn {many : Int} {A : Rm} (hM : MSh w m) (h : RdM w m t n most p) (hR : MRd w m A) (h0 : 0 ≤ p) (hm : 0 ≤ many) (hA : many = 0 → A.1 = 0) (k : tkK t n most p = 2) : ∃ w', Ex pro (d + 4) 172 w [rV m, iV many] = some (some (iV (okR (leafLn t n most many A p).1)), w') ∧ MSh w' m ∧ RdM w' m t n most (leafLn t n most many A p).2.2.1 ∧ ((leafLn t n most many A p).1 ≠ 0 → FlM w' m (leafLn t n most many A p).1 (leafLn t n most many A p).2.1) ∧ MRd w' m (leafLn t n most many A p).2.2.2 ∧ Mf w w' (rP m) ∧ ((leafLn t n most many A p).1 = 0 → gv w' m 10 = gv w m 10) := by
  have k10 := h.1.1.1
  have ti := tk_in (t := t) (n := n) (most := most) (p := p) (by omega)
  unfold leafLn
  by_cases c : many = 0
  · rw [if_pos c]
    obtain ⟨w1, a1, a2, a3⟩ := o_next (d := d + 1) h (by omega) h0
    have M1 := hM.mf a3 (fun j z => by omega)
    have R1 := hR.mf a3 (fun j => by omega) (fun j => by omega)
    have k1 := a2.1.1.1
    by_cases y : atN t n most (tkT t n most p) 4 32
    · rw [if_pos y]
      obtain ⟨w2, b1, b2, b3, b4, b5⟩ := o_numY (d := d) a2 (by omega) y
      have M2 := M1.mf b5 (fun j z => by omega)
      have R2 := R1.mf b5 (fun j => by omega) (fun j => by omega)
      have m3 := Mf.svI w2 (m + 3) 1 (tkN t n most (tkT t n most p))
      have b15 := M2.2.2.2.1
      have k2 := b2.1.1.1
      refine ⟨_, xX12_readLeaf (Rn.ret ?_), M2.mf m3 (fun j z => by omega), b2.mf m3 (fun j z => by omega) (fun j => by omega), fun z => absurd rfl z, R2.low (hA c) y.2, (a3.trans (b5.trans m3)).mono (fun r j z => by omega), fun _ => by rw [m3.gvE (by omega), b4, a3.gvE (by omega)]⟩
      rw [eX12_readLeaf_0, if_neg (by omega), if_pos k10, a1]
      simp only [bN]
      rw [if_pos k1, b1]
      simp only [bI]
      rw [if_neg (by decide), if_pos k2, if_pos k2, b15.1, if_pos ⟨⟨b15.2.1, by have := hM.1.2; omega⟩, by omega, by rw [b15.2.2]; omega⟩, b3, wl_eq]
      rfl
    · rw [if_neg y]
      obtain ⟨w2, b1, b2, b3, b4⟩ := o_numN (d := d) a2 y
      refine ⟨w2, xX12_readLeaf (Rn.ret ?_), M1.mf b4 (fun j z => by omega), b2, fun _ => b3, R1.mf b4 (fun j => by omega) (fun j => by omega), (a3.trans b4).mono (fun r j z => by omega), fun z => by
        change whyNm t n most (tkT t n most p) = 0 at z
        unfold whyNm at z
        split at z <;> omega⟩
      rw [eX12_readLeaf_0, if_neg (by omega), if_pos k10, a1]
      simp only [bN]
      rw [if_pos k1, b1]
      simp only [bI]
      rw [if_pos trivial, show okR (whyNm t n most (tkT t n most p)) = 0 by unfold okR whyNm; split <;> rfl]
  · rw [if_neg c]
    obtain ⟨w2, b1, b2, b3, b4⟩ := o_bad (d := d + 2) h 3
    rw [if_neg (by omega)] at b3
    refine ⟨w2, xX12_readLeaf (Rn.ret ?_), hM.mf b4 (fun j z => by omega), b2, fun _ => b3, hR.mf b4 (fun j => by omega) (fun j => by omega), b4.mono (fun r j z => by omega), fun z => by change (3 : Int) = 0 at z; omega⟩
    rw [eX12_readLeaf_0, if_pos (by omega), if_pos k10, b1]
    simp only [bI]
    rw [if_pos (Or.inl trivial)]
    rfl
theorem l_mlets (k : tkK t n most p = 2) (h0 : 0 ≤ p) (ok : okT t (tkL t n most p).toNat (tkP t n most p) = 1) : ∀ (f : Nat) (x : Int) (w : sW) (A : Rm), MSh w m → RdM w m t n most p → MRd w m A → x + f = tkT t n most p → tkP t n most p ≤ x → A.2.2.2.2.1 + f ≤ 200 → ∃ w', (∀ res, Rn (Ex pro (d + 3)) mX12_readLetters (22, [some (rV m), none], [], w') res → Rn (Ex pro (d + 3)) mX12_readLetters (79, [some (rV m), some (iV x)], [], w) res) ∧ MSh w' m ∧ RdM w' m t n most (tkT t n most p) ∧ MRd w' m (setLet A (appT t x f A.2.2.2.2)) ∧ Mf w w' (rP m) ∧ gv w' m 10 = gv w m 10
  | 0, x, w, A, hM, h, hR, hx, hx0, hn => by
    obtain ⟨w', a1, a2, a3⟩ := o_next (d := d + 1) h (by omega) h0
    refine ⟨w', fun res g => Rn.cut ?_ g, hM.mf a3 (fun j z => by omega), a2, hR.mf a3 (fun j => by omega) (fun j => by omega), a3.mono (fun r j z => by omega), a3.gvE (by omega)⟩
    rw [eX12_readLetters_79, if_pos h.1.1.1, h.2.2.2.1 (by omega), if_neg (by omega), if_pos h.1.1.1, a1]
    simp only [bN]
  | f + 1, x, w, A, hM, h, hR, hx, hx0, hn => by
    have al := tk_len k h0
    have n94 := h.1.2.2.1
    have hT := hR.2.2.2.2.2.2.1
    have h6 := hR.2.2.2.2.2.1
    have k10 := h.1.1.1
    have bt := (h.1.2.2.2.2 x (by omega) (by omega)).1
    have lt := okT_lt _ _ (x - tkP t n most p) ok (by omega) (by omega)
    rw [show tkP t n most p + (x - tkP t n most p) = x by omega] at lt
    have a15 := hM.2.2.2.1
    have m1 := Mf.svI w (m + 3) (7 + A.2.2.2.2.1) (t x - 97)
    have m2 := Mf.svI (sv w (m + 3) (7 + A.2.2.2.2.1) (t x - 97)) (m + 3) 6 (A.2.2.2.2.1 + 1)
    have mm : Mf w (sv (sv w (m + 3) (7 + A.2.2.2.2.1) (t x - 97)) (m + 3) 6 (A.2.2.2.2.1 + 1)) (fun r j => r = m + 3) := (m1.trans m2).mono (fun r j z => by omega)
    have R2 := hR.sign (v := t x - 97) (by omega) (by omega)
    obtain ⟨w', g1, g2, g3, g4, g5, g6⟩ := l_mlets k h0 ok f (x + 1) _ _ (hM.mf mm (fun j z => by omega)) (h.mf mm (fun j z => by omega) (fun j => by omega)) R2 (by omega) (by omega) (by show A.2.2.2.2.1 + 1 + (f : Int) ≤ 200; omega)
    refine ⟨w', fun res g => Rn.cut ?_ (g1 res g), g2, g3, g4, (mm.mono (Q := rP m) (fun r j z => by omega)).tr g5, by rw [g6, mm.gvE (by omega)]⟩
    have i1 : kd w (m + 3) = 20 ∧ 0 ≤ (6 : Int) ∧ (6 : Int) < ln w (m + 3) := ⟨a15.2.1, by omega, by rw [a15.2.2]; omega⟩
    have y15 : gv (sv w (m + 3) (7 + A.2.2.2.2.1) (t x - 97)) m 15 = m + 3 := by rw [gvS, if_neg (by omega)]; exact a15.1
    have y6 : gv (sv w (m + 3) (7 + A.2.2.2.2.1) (t x - 97)) (m + 3) 6 = A.2.2.2.2.1 := by rw [gvS, if_neg (by omega)]; exact h6
    have i3 : kd (sv w (m + 3) (7 + A.2.2.2.2.1) (t x - 97)) (m + 3) = 20 ∧ 0 ≤ (6 : Int) ∧ (6 : Int) < ln (sv w (m + 3) (7 + A.2.2.2.2.1) (t x - 97)) (m + 3) := i1
    rw [eX12_readLetters_79, if_pos k10, h.2.2.2.1 (by omega), if_pos (by omega), if_pos k10, if_pos k10, a15.1, if_pos i1, if_pos k10, h.1.1.2.1, if_pos ⟨h.1.2.1.1, by omega, by rw [h.1.2.1.2]; omega⟩, bt, h6, w32_eq (x := 7 + A.2.2.2.2.1) (by omega) (by omega), w32_eq (x := t x - 97) (by omega) (by omega), if_pos ⟨⟨a15.2.1, by have := hM.1.2; omega⟩, by omega, by rw [a15.2.2]; omega⟩, wl_eq, if_pos (show kd (sv w (m + 3) (7 + A.2.2.2.2.1) (t x - 97)) m = 10 from k10), y15, if_pos i3, if_pos ⟨⟨i3.1, by have := hM.1.2; omega⟩, i3.2⟩, y6, w32_eq (by omega) (by omega), wl_eq, w32_eq (by omega) (by omega)]
theorem l_mletW : ∀ (f : Nat) (p : Int) (w : sW) (A : Rm), n - p ≤ f → 0 ≤ p → MSh w m → RdM w m t n most p → MRd w m A → ∃ w', Rn (Ex pro (d + 3)) mX12_readLetters (22, [some (rV m), none], [], w) (some (iV (okR (rdT t n most f p A.2.2.2.2).1)), w') ∧ MSh w' m ∧ RdM w' m t n most (rdT t n most f p A.2.2.2.2).2.2.1 ∧ ((rdT t n most f p A.2.2.2.2).1 ≠ 0 → FlM w' m (rdT t n most f p A.2.2.2.2).1 (rdT t n most f p A.2.2.2.2).2.1) ∧ MRd w' m (setLet A (rdT t n most f p A.2.2.2.2).2.2.2) ∧ Mf w w' (rP m) ∧ ((rdT t n most f p A.2.2.2.2).1 = 0 → gv w' m 10 = gv w m 10)
  | 0, p, w, A, hf, h0, hM, h, hR => by
    have k : ¬ tkK t n most p = 2 := fun z => by
      have ti := tk_in (t := t) (n := n) (most := most) (p := p) (by omega)
      omega
    refine ⟨w, Rn.ret ?_, hM, h, fun z => absurd rfl z, hR, Mf.refl _ _, fun _ => rfl⟩
    rw [eX12_readLetters_22, if_pos h.1.1.1, h.2.1, if_neg k]
    rfl
  | f + 1, p, w, A, hf, h0, hM, h, hR => by
    have k10 := h.1.1.1
    unfold rdT
    by_cases k : tkK t n most p = 2
    · rw [if_pos k]
      have al := tk_len k h0
      have n94 := h.1.2.2.1
      have a15 := hM.2.2.2.1
      have h6 := hR.2.2.2.2.2.1
      have hT := hR.2.2.2.2.2.2.1
      have i1 : kd w (m + 3) = 20 ∧ 0 ≤ (6 : Int) ∧ (6 : Int) < ln w (m + 3) := ⟨a15.2.1, by omega, by rw [a15.2.2]; omega⟩
      by_cases y1 : okT t (tkL t n most p).toNat (tkP t n most p) = 1
      · by_cases y2 : A.2.2.2.2.1 + tkL t n most p ≤ 200
        · rw [if_pos ⟨y1, y2⟩]
          obtain ⟨w1, a1, a2, a3, a4, a5, a6⟩ := l_mlets (d := d) k h0 y1 (tkL t n most p).toNat (tkP t n most p) w A hM h hR (by omega) (by omega) (by omega)
          have ti := tk_in (t := t) (n := n) (most := most) (p := p) (by omega)
          obtain ⟨w', g1, g2, g3, g4, g5, g6, g7⟩ := l_mletW f (tkT t n most p) w1 _ (by omega) (by omega) a2 a3 a4
          refine ⟨w', Rn.cut ?_ (a1 _ g1), g2, g3, g4, g5, a5.tr g6, fun z => (g7 z).trans a6⟩
          rw [eX12_readLetters_22, if_pos k10, h.2.1, if_pos k, if_pos k10, o_areOf h k h0, y1]
          simp only [bI]
          rw [if_neg (by decide), if_pos k10, a15.1, if_pos i1, if_pos k10, if_pos k10, h6, h.2.2.2.1 (by omega), h.2.2.1, w32_eq (x := A.2.2.2.2.1 + tkT t n most p) (by omega) (by omega), w32_eq (by omega) (by omega), if_neg (by omega), if_pos k10]
        · rw [if_neg (fun z => y2 z.2), if_pos y1]
          obtain ⟨w1, a1, a2, a3, a4⟩ := o_bad (d := d + 2) h 4
          rw [if_neg (by omega)] at a3
          refine ⟨w1, Rn.ret ?_, hM.mf a4 (fun j z => by omega), a2, fun _ => a3, hR.mf a4 (fun j => by omega) (fun j => by omega), a4.mono (fun r j z => by omega), fun z => by change (4 : Int) = 0 at z; omega⟩
          rw [eX12_readLetters_22, if_pos k10, h.2.1, if_pos k, if_pos k10, o_areOf h k h0, y1]
          simp only [bI]
          rw [if_neg (by decide), if_pos k10, a15.1, if_pos i1, if_pos k10, if_pos k10, h6, h.2.2.2.1 (by omega), h.2.2.1, w32_eq (x := A.2.2.2.2.1 + tkT t n most p) (by omega) (by omega), w32_eq (by omega) (by omega), if_pos (by omega), if_pos k10, a1]
          simp only []
          rw [if_pos (Or.inl trivial)]
          rfl
      · rw [if_neg (fun z => y1 z.1), if_neg y1]
        have y0 := (okT_01 t (tkL t n most p).toNat (tkP t n most p)).resolve_right y1
        obtain ⟨w1, a1, a2, a3, a4⟩ := o_bad (d := d + 2) h 2
        rw [if_neg (by omega)] at a3
        refine ⟨w1, Rn.ret ?_, hM.mf a4 (fun j z => by omega), a2, fun _ => a3, hR.mf a4 (fun j => by omega) (fun j => by omega), a4.mono (fun r j z => by omega), fun z => by change (2 : Int) = 0 at z; omega⟩
        rw [eX12_readLetters_22, if_pos k10, h.2.1, if_pos k, if_pos k10, o_areOf h k h0, y0]
        simp only [bI]
        rw [if_pos trivial, if_pos k10, a1]
        simp only []
        rw [if_pos (Or.inl trivial)]
        rfl
    · rw [if_neg k]
      refine ⟨w, Rn.ret ?_, hM, h, fun z => absurd rfl z, hR, Mf.refl _ _, fun _ => rfl⟩
      rw [eX12_readLetters_22, if_pos k10, h.2.1, if_neg k]
      rfl
theorem o_letLn {told : Int} {A : Rm} (hM : MSh w m) (h : RdM w m t n most p) (hR : MRd w m A) (h0 : 0 ≤ p) (h25 : gv w m 25 = told) (h01 : told = 0 ∨ told = 1) (k : tkK t n most p = 2) : ∃ w', Ex pro (d + 4) 176 w [rV m] = some (some (iV (okR (letLn t n most told A p).1)), w') ∧ MSh w' m ∧ RdM w' m t n most (letLn t n most told A p).2.2.1 ∧ ((letLn t n most told A p).1 ≠ 0 → FlM w' m (letLn t n most told A p).1 (letLn t n most told A p).2.1) ∧ MRd w' m (letLn t n most told A p).2.2.2 ∧ Mf w w' (fun r j => rP m r j ∨ (r = m ∧ j = 25)) ∧ ((letLn t n most told A p).1 = 0 → gv w' m 10 = gv w m 10) ∧ gv w' m 25 = 1 := by
  have k10 := h.1.1.1
  have n94 := h.1.2.2.1
  have ti := tk_in (t := t) (n := n) (most := most) (p := p) (by omega)
  unfold letLn
  by_cases c : told = 0
  · rw [if_pos c]
    have m0 := Mf.svI w m 25 1
    have D0 : RdM (sv w m 25 1) m t n most p := h.mf m0 (fun j z => by omega) (fun j => by omega)
    obtain ⟨w1, a1, a2, a3⟩ := o_next (d := d + 1) D0 (by omega) h0
    have M1 := (hM.mf m0 (fun j z => by omega)).mf a3 (fun j z => by omega)
    have R1 := (hR.mf m0 (fun j => by omega) (fun j => by omega)).mf a3 (fun j => by omega) (fun j => by omega)
    obtain ⟨w', g1, g2, g3, g4, g5, g6, g7⟩ := l_mletW (d := d) (n := n) (most := most) (t := t) 940 (tkT t n most p) w1 _ (by omega) (by omega) M1 a2 R1
    refine ⟨w', xX12_readLetters (Rn.cut ?_ g1), g2, g3, g4, g5, (m0.trans (a3.trans g6)).mono (fun r j z => by omega), fun z => by rw [g7 z, a3.gvE (by omega), m0.gvE (by omega)], by rw [g6.gvE (by omega), a3.gvE (by omega), gvSS]⟩
    rw [eX12_readLetters_0, if_pos k10, h25, if_pos c, if_pos ⟨k10, by omega⟩, wl_eq, if_pos D0.1.1.1, a1]
    simp only [bN]
  · rw [if_neg c]
    obtain ⟨w2, b1, b2, b3, b4⟩ := o_bad (d := d + 2) h 3
    rw [if_neg (by omega)] at b3
    refine ⟨w2, xX12_readLetters (Rn.ret ?_), hM.mf b4 (fun j z => by omega), b2, fun _ => b3, hR.mf b4 (fun j => by omega) (fun j => by omega), b4.mono (fun r j z => by omega), fun z => by change (3 : Int) = 0 at z; omega, by rw [b4.gvE (by omega)]; omega⟩
    rw [eX12_readLetters_0, if_pos k10, h25, if_neg c, if_pos k10, b1]
    simp only [bI]
    rw [if_pos (Or.inl trivial)]
    rfl
end MB4
