/-! ===== paste ===== -/
/-- f bits of t from k on put in at i + k -/
def pstR (t : Int → Int) (low i : Int) : Nat → Int → Rw → Rw
  | 0, _, R => R
  | f + 1, k, R => pstR t low i f (k + 1) (insR R (i + k) (t k) low)
abbrev paV (A : Rm) (t : Int → Int) (n r i : Int) : Prop := (isR A r ∧ tpB t n 64) ∧ whyP A r i n = 0
def paA (A : Rm) (t : Int → Int) (n r i : Int) : Rm := if paV A t n r i then setRow A r (pstR t A.2.1 i n.toNat 0 (A.2.2.2.1 r)) else A
def paK (A : Rm) (t : Int → Int) (n r i hk : Int) : Int := if paV A t n r i then pushK hk else hk
def paH (A : Rm) (t : Int → Int) (n r i hk : Int) (H : Int → Rm) : Int → Rm := if paV A t n r i then pushH hk H A else H
def paY (A : Rm) (t : Int → Int) (n r i : Int) : Int := if isR A r ∧ tpB t n 64 then whyP A r i n else -1
theorem Fr.mf {w w' : sW} {lo hi : Int} (h : Fr w w' lo hi) : Mf w w' (fun r _ => lo ≤ r ∧ r ≤ hi) := ⟨h.1, h.2.1, fun r j hp => h.2.2 r j (by omega)⟩
section PA
variable {d : Nat} {w : sW} {m q : Int} {A : Rm} {hk : Int} {H : Int → Rm}
theorem l_paste {r i n : Int} {t : Int → Int} (q36 : q = 36 ∨ q = 53) (hr : isR A r) (hi : 0 ≤ i) (hn : n ≤ 64) (ht : ∀ k, 0 ≤ k → k < n → t k = 0 ∨ t k = 1) : ∀ (f : Nat) (k : Int) (w : sW) (R : Rw), k + f = n → 0 ≤ k → NowI w 32 q (setRow A r R) → TpI w 32 0 1 33 t 0 → i + k ≤ R.1 → R.1 + f ≤ 600 → ∃ w', Rn (Ex pro (d + 2)) mX11_paste (69, [some (rV 32), none, some (iV i), some (iV n), some (rV (q + 5 + 3 * r)), some (iV k)], [], w) (some (iV 0), w') ∧ NowI w' 32 q (setRow A r (pstR t A.2.1 i f k R)) ∧ Fr w w' q (q + 16)
  | 0, k, w, R, hk, h0, hN, hT, hik, hR => by
    refine ⟨w, Rn.ret ?_, hN, Fr.refl _ _ _⟩
    rw [eX11_paste_69, if_neg (by omega)]
  | f + 1, k, w, R, hk, h0, hN, hT, hik, hR => by
    have hr' : isR (setRow A r R) r := hr
    have row := hN.row hr'
    rw [setRow_at] at row
    have r4 : 0 ≤ r ∧ r < 4 := by
      have := hN.2.2.2.2.1
      have hr2 : 0 ≤ r ∧ r < (setRow A r R).1 := hr'
      omega
    have tk := hT.2.2.2 k h0 (by omega)
    have t01 := ht k h0 (by omega)
    obtain ⟨w1, a1, a2, a3⟩ := r_insert (d := d) row (i := i + k) (v := t k) (by omega) (by omega) t01
    have s1 := hN.2.2.row hr' a2 a3
    rw [setRow2] at s1
    have N1 : NowI w1 32 q (setRow A r (insR R (i + k) (t k) A.2.1)) := ⟨by rw [a2.kdE]; exact hN.1, by rw [a2.2.2 _ _ (by omega)]; exact hN.2.1, s1⟩
    obtain ⟨w', b1, b2, b3⟩ := l_paste q36 hr hi hn ht f (k + 1) w1 (insR R (i + k) (t k) A.2.1) (by omega) (by omega) N1 (hT.mf a2.mf (by omega) (by omega) (fun j => by omega)) (by show i + (k + 1) ≤ R.1 + 1; omega) (by show R.1 + 1 + (f : Int) ≤ 600; omega)
    refine ⟨w', Rn.cut ?_ b1, b2, (a2.mono (by omega) (by omega)).trans b3⟩
    have lo : gv w q 4 = A.2.1 := hN.2.2.2.1.2
    have a1' : Ex pro (d + 2) 48 w [rV (q + 5 + 3 * r), iV (i + k), iV (t k), iV A.2.1] = some (none, w1) := a1
    rw [eX11_paste_69, if_pos (by omega), if_pos hN.1, hT.1.1, if_pos ⟨hT.1.2.1, h0, by rw [hT.1.2.2.1]; omega⟩, if_pos hN.1, if_pos hN.k8, if_pos (hN.k5 hr'), hN.2.1, lo, tk.1, w32_eq (x := i + k) (by omega) (by omega), a1']
    simp only [bN]
    rw [w32_eq (by omega) (by omega)]
theorem p_paste {n : Int} {t : Int → Int} (h : CD w q A hk H) (hT : TpI w 32 0 1 33 t n) (r i : Int) : ∃ w' k, Ex pro (d + 4) 128 w [rV 32, iV r, iV i] = some (some (iV (paY A t n r i)), w') ∧ CD w' q (paA A t n r i) (paK A t n r i hk) (paH A t n r i hk H) ∧ TpI w' 32 0 1 33 t 0 ∧ (0 ≤ k ∧ k < 8) ∧ Ag w w' (fun r j => (r = 32 ∧ j = 1) ∨ dC w q k r j) ∧ uc w' ≤ uc w + 17 ∧ us w' ≤ us w + 3240 := by
  obtain ⟨h1, h2, h3, h4, h5, h6, h7⟩ := h
  have mf1 := Mf.svI w 32 1 0
  have N1 : NowI (sv w 32 1 0) 32 q A := h1.ag mf1.ag h7 h2 (by omega) (fun r j r0 r1 => by omega)
  have T1 := hT.zero
  have H1 : HsI (sv w 32 1 0) hk H := h4.ag h5 mf1.ag h7 (fun r j hr => by omega)
  have B1 : BkO (sv w 32 1 0) := h5.ag mf1.ag h7 (fun r j hr => by omega)
  have S1 : BkS (sv w 32 1 0) := h6.ag h5 mf1.ag h7 (fun r j hr => by omega)
  have p8 : gv (sv w 32 1 0) 32 8 = 85 := by rw [gvS, if_neg (by omega)]; exact h3
  have tk := p_take (d := d + 1) h1.1 hT (most := 64)
  unfold paY paA paK paH
  by_cases v : isR A r ∧ tpB t n 64
  · have n6 := (h1.lv v.1).2.1
    have vn := v.2.1
    rw [if_pos v]
    by_cases c : whyP A r i n = 0
    · rw [if_pos (show paV A t n r i from ⟨v, c⟩), if_pos (show paV A t n r i from ⟨v, c⟩), if_pos (show paV A t n r i from ⟨v, c⟩)]
      have ci : 0 ≤ i ∧ i ≤ nA A r := by
        unfold whyP at c
        by_cases z : 0 ≤ i ∧ i ≤ nA A r
        · exact z
        · rw [if_neg z] at c; omega
      have cn : ¬ 600 < nA A r + n := by
        unfold whyP at c
        rw [if_pos ci] at c
        intro z
        rw [if_pos z] at c
        omega
      obtain ⟨w2, k, a1, a2, a3, a4, a5, a6, a7, a8⟩ := h_keep (d := d) H1 B1 S1 N1.2.2 h2 h7
      have b5 := B1.1 k a2.1 (by omega)
      have e5 : ow (sv w 32 1 0) k = gv (sv w 32 1 0) 86 k := ow8 _ a2.2
      have hx2 : 108 ≤ nx w2 := by have := a6.1; rw [nxS] at this; omega
      have N2 : NowI w2 32 q A := N1.ag a6 h7 h2 (by omega) (fun r j r0 r1 => by omega)
      have T2 : TpI w2 32 0 1 33 t 0 := T1.ag a6 (by rw [nxS]; omega) (by rw [nxS]; omega) (by omega) (by omega) (fun j => by omega)
      obtain ⟨w3, b1, b2, b3⟩ := l_paste (d := d + 1) (q := q) (A := A) (r := r) (i := i) (n := n) (t := t) h2 v.1 ci.1 vn.2 (fun k k0 k1 => tb_at n.toNat 0 v.2.2 k k0 (by omega)) n.toNat 0 w2 (A.2.2.2.1 r) (by omega) (by omega) (by rw [setRow_self]; exact N2) T2 (by show i + 0 ≤ nA A r; omega) (by show nA A r + _ ≤ 600; omega)
      have g86 : gv (sv w 32 1 0) 86 k = gv w 86 k := by rw [gvS, if_neg (by omega)]
      have b1' : Rn (Ex pro (d + 3)) mX11_paste (69, [some (rV 32), none, some (iV i), some (iV n), some (rV (q + 5 + 3 * r)), some (iV 0)], [], w2) (some (iV (whyP A r i n)), w3) := by rw [c]; exact b1
      refine ⟨w3, k, xX11_paste (Rn.cut ?_ b1'), ⟨b2, h2, ?_, a3.ag a4 b3.ag hx2 (fun r j hr => by omega), a4.ag b3.ag hx2 (fun r j hr => by omega), a5.ag a4 b3.ag hx2 (fun r j hr => by omega), by rw [b3.nxE]; exact hx2⟩, T2.mf b3.mf (by omega) (by omega) (fun j => by omega), a2, ((mf1.ag.trans (a6.trans b3.ag)).mono (fun r j r0 r1 z => ?_)), by rw [b3.ucE]; rw [ucS] at a7; exact a7, by rw [b3.usE]; rw [usS] at a8; exact a8⟩
      · rw [eX11_paste_0, if_pos h1.1, tk, if_pos v.2]
        simp only [bI]
        rw [if_pos N1.1, if_pos N1.k8, N1.yes v.1, if_neg (N1.nz v.1), if_neg (by omega), if_pos (N1.k5 v.1), s_hasGap (N1.at v.1)]
        simp only [ite10]
        rw [if_pos ci, if_pos (N1.k5 v.1), (N1.at v.1).2.1, w32_eq (by omega) (by omega), if_neg cn, if_pos N1.1, if_pos N1.1, p8, if_pos H1.1.1, N1.2.1, a1]
        simp only [bN]
      · rw [b3.2.2 _ _ (by omega), a6.gvE (by omega) (by rw [nxS]; omega) (by omega)]; exact p8
      · rw [g86] at z
        rcases z with z | z | z
        · exact Or.inl z
        · exact Or.inr (Or.inr z)
        · exact Or.inr (Or.inl z)
    · have cv : ¬ paV A t n r i := fun z => c z.2
      rw [if_neg cv, if_neg cv, if_neg cv]
      refine ⟨sv w 32 1 0, 0, xX11_paste (Rn.ret ?_), ⟨N1, h2, p8, H1, B1, S1, h7⟩, T1, by omega, mf1.ag.mono (fun r j _ _ z => Or.inl z), by rw [ucS]; omega, by rw [usS]; omega⟩
      rw [eX11_paste_0, if_pos h1.1, tk, if_pos v.2]
      simp only [bI]
      rw [if_pos N1.1, if_pos N1.k8, N1.yes v.1, if_neg (N1.nz v.1), if_neg (by omega), if_pos (N1.k5 v.1), s_hasGap (N1.at v.1)]
      simp only [ite10]
      unfold whyP at c ⊢
      by_cases ci : 0 ≤ i ∧ i ≤ nA A r
      · rw [if_pos ci] at c ⊢
        rw [if_pos ci, if_pos (N1.k5 v.1), (N1.at v.1).2.1, w32_eq (by omega) (by omega)]
        by_cases cn : 600 < nA A r + n
        · rw [if_pos cn, if_pos cn]
        · rw [if_neg cn] at c; exact absurd rfl c
      · rw [if_neg ci, if_neg ci]
  · have cv : ¬ paV A t n r i := fun z => v z.1
    rw [if_neg v, if_neg cv, if_neg cv, if_neg cv]
    refine ⟨sv w 32 1 0, 0, xX11_paste (Rn.ret ?_), ⟨N1, h2, p8, H1, B1, S1, h7⟩, T1, by omega, mf1.ag.mono (fun r j _ _ z => Or.inl z), by rw [ucS]; omega, by rw [usS]; omega⟩
    rw [eX11_paste_0, if_pos h1.1, tk]
    simp only [bI]
    rw [if_pos N1.1, if_pos N1.k8]
    by_cases c : isR A r
    · rw [N1.yes c, if_neg (N1.nz c), if_neg (fun z => v ⟨c, z⟩), if_pos rfl]
    · rw [N1.no c, if_pos rfl]
theorem l_mPaste {r i n : Int} {t : Int → Int} (h : NwSh w m) (hT : TpI w m 1 2 (m + 1) t 0) (hr : isR A r) (hi : 0 ≤ i) (hn : n ≤ 64) (ht : ∀ k, 0 ≤ k → k < n → t k = 0 ∨ t k = 1) : ∀ (f : Nat) (k : Int) (X : Int → Int) (R : Rw), k + f = n → 0 ≤ k → MX X (setRow A r R) → i + k ≤ R.1 → R.1 + f ≤ 600 → ∃ X', Rn (Ex pro (d + 3)) mX12_paste (54, [some (rV m), some (iV r), some (iV i), some (iV n), none, some (iV k)], [], sa w (m + 2) X) (some (iV 0), sa w (m + 2) X') ∧ MX X' (setRow A r (pstR t A.2.1 i f k R)) ∧ ∀ x, ¬ rowC r x → X' x = X x
  | 0, k, X, R, hk, h0, g, hik, hR => by
    refine ⟨X, Rn.ret ?_, g, fun _ _ => rfl⟩
    rw [eX12_paste_54, if_neg (by omega)]
  | f + 1, k, X, R, hk, h0, g, hik, hR => by
    have hr' : isR (setRow A r R) r := hr
    have tk := hT.2.2.2 k h0 (by omega)
    have t01 := ht k h0 (by omega)
    have nr : nA (setRow A r R) r = R.1 := by show ((setRow A r R).2.2.2.1 r).1 = _; rw [setRow_at]
    obtain ⟨X1, a1, a2, a3⟩ := MX.put (d := d) h g hr' (i := i + k) (v := t k) (by omega) (by omega) t01
    rw [setRow_at, setRow2] at a2
    obtain ⟨X2, b1, b2, b3⟩ := l_mPaste h hT hr hi hn ht f (k + 1) X1 (insR R (i + k) (t k) A.2.1) (by omega) (by omega) a2 (by show i + (k + 1) ≤ R.1 + 1; omega) (by show R.1 + 1 + (f : Int) ≤ 600; omega)
    refine ⟨X2, Rn.cut ?_ b1, b2, fun x hx => (b3 x hx).trans (a3 x hx)⟩
    have h' := h.sa X
    have e1 : gv (sa w (m + 2) X) m 1 = m + 1 := by rw [gvA, if_neg (by omega)]; exact hT.1.1
    have e2 : gv (sa w (m + 2) X) (m + 1) k = t k := by rw [gvA, if_neg (by omega)]; exact tk.1
    rw [eX12_paste_54, if_pos (by omega), if_pos h'.1, e1, if_pos ⟨hT.1.2.1, h0, by rw [lnA, hT.1.2.2.1]; omega⟩, if_pos h'.1, e2, w32_eq (x := i + k) (by omega) (by omega), a1]
    simp only [bN]
    rw [w32_eq (by omega) (by omega)]
theorem q_paste {n : Int} {t : Int → Int} (h : MSh w m) (hA : MoI w m A) (hh : HsM w m hk H) (hT : TpI w m 1 2 (m + 1) t n) (r i : Int) : ∃ w', Ex pro (d + 4) 243 w [rV m, iV r, iV i] = some (some (iV (paY A t n r i)), w') ∧ MoI w' m (paA A t n r i) ∧ HsM w' m (paK A t n r i hk) (paH A t n r i hk H) ∧ TpI w' m 1 2 (m + 1) t 0 ∧ Mf w w' (fun r j => (r = m ∧ (j = 0 ∨ j = 2 ∨ j = 24)) ∨ r = m + 5 ∨ (r = m + 2 ∧ 2607 ≤ j ∧ j < 5820)) := by
  have mf0 := Mf.svI w m 0 0
  have mf1 := Mf.svI (sv w m 0 0) m 2 0
  have mf : Mf w (sv (sv w m 0 0) m 2 0) (fun r j => r = m ∧ (j = 0 ∨ j = 2)) := (mf0.trans mf1).mono (fun r j z => by omega)
  have h0 := h.t0
  have T0 : TpI (sv w m 0 0) m 1 2 (m + 1) t n := hT.mf mf0 (by omega) (by omega) (fun j => by omega)
  have h1 := h.mf mf (fun j hj => by omega)
  have A1 : MoI (sv (sv w m 0 0) m 2 0) m A := hA.mf mf (by omega) (fun j hj => by omega)
  have H1 : HsM (sv (sv w m 0 0) m 2 0) m hk H := hh.mf mf (by omega) (fun j => by omega)
  have T1 := T0.zero
  have k0 := h0.1.1
  have k1 := h1.1.1
  have tk := o_take (d := d + 2) k0 T0
  have n8 := hT.2.2.1
  have ab := o_tapeB (d := d + 1) k1 T1 (n := n) (most := 64) n8
  unfold paY paA paK paH
  by_cases v : isR A r ∧ tpB t n 64
  · have n6 := hA.n6 v.1
    have vn := v.2.1
    have wp := A1.whyPut (d := d + 1) (r := r) (i := i) (c := n) v.1 (by omega)
    rw [if_pos v]
    by_cases c : whyP A r i n = 0
    · rw [if_pos (show paV A t n r i from ⟨v, c⟩), if_pos (show paV A t n r i from ⟨v, c⟩), if_pos (show paV A t n r i from ⟨v, c⟩)]
      have ci : 0 ≤ i ∧ i ≤ nA A r := by
        unfold whyP at c
        by_cases z : 0 ≤ i ∧ i ≤ nA A r
        · exact z
        · rw [if_neg z] at c; omega
      have cn : ¬ 600 < nA A r + n := by
        unfold whyP at c
        rw [if_pos ci] at c
        intro z
        rw [if_pos z] at c
        omega
      obtain ⟨w2, a1, a2, a3⟩ := o_snap (d := d + 1) h1 A1 H1
      have h2 := h1.mf a3 (fun j hj => by omega)
      have A2 := A1.mf a3 (by omega) (fun j hj => by omega)
      have T2 : TpI w2 m 1 2 (m + 1) t 0 := T1.mf a3 (by omega) (by omega) (fun j => by omega)
      obtain ⟨X', b1, b2, b3⟩ := l_mPaste (d := d) (A := A) (r := r) (i := i) (n := n) (t := t) h2.nw T2 v.1 ci.1 vn.2 (fun k k0 k1 => tb_at n.toNat 0 v.2.2 k k0 (by omega)) n.toNat 0 (gv w2 (m + 2)) (A.2.2.2.1 r) (by omega) (by omega) (by rw [setRow_self]; exact A2.2) (by show i + 0 ≤ nA A r; omega) (by show nA A r + _ ≤ 600; omega)
      rw [sa_self] at b1
      have r4 := hA.r4 v.1
      have mf3 : Mf w2 (sa w2 (m + 2) X') (fun r j => r = m + 2 ∧ (2607 ≤ j ∧ j < 5820)) := sa_mf (fun x hx => b3 x (by unfold rowC; omega))
      have b1' : Rn (Ex pro (d + 3)) mX12_paste (54, [some (rV m), some (iV r), some (iV i), some (iV n), none, some (iV 0)], [], w2) (some (iV (whyP A r i n)), sa w2 (m + 2) X') := by rw [c]; exact b1
      refine ⟨sa w2 (m + 2) X', xX12_paste (Rn.cut ?_ b1'), MoI.sa h2.nw b2, a2.mf mf3 (by omega) (fun j => by omega), T2.mf mf3 (by omega) (by omega) (fun j => by omega), (mf.trans (a3.trans mf3)).mono (fun r j z => by omega)⟩
      rw [eX12_paste_0, if_pos h.1.1, wl_eq, if_pos k0, tk]
      simp only [bI]
      rw [if_pos k1, A1.isRow r]
      simp only [ite10]
      rw [if_pos v.1, if_pos k1, ab]
      simp only [ite10]
      rw [if_pos v.2, if_pos k1, wp, c]
      simp only []
      rw [if_pos trivial, if_pos k1, a1]
      simp only [bN]
    · have cv : ¬ paV A t n r i := fun z => c z.2
      rw [if_neg cv, if_neg cv, if_neg cv]
      refine ⟨sv (sv w m 0 0) m 2 0, xX12_paste (Rn.ret ?_), A1, H1, T1, mf.mono (fun r j z => by omega)⟩
      rw [eX12_paste_0, if_pos h.1.1, wl_eq, if_pos k0, tk]
      simp only [bI]
      rw [if_pos k1, A1.isRow r]
      simp only [ite10]
      rw [if_pos v.1, if_pos k1, ab]
      simp only [ite10]
      rw [if_pos v.2, if_pos k1, wp]
      simp only []
      rw [if_neg c]
  · have cv : ¬ paV A t n r i := fun z => v z.1
    rw [if_neg v, if_neg cv, if_neg cv, if_neg cv]
    refine ⟨sv (sv w m 0 0) m 2 0, xX12_paste (Rn.ret ?_), A1, H1, T1, mf.mono (fun r j z => by omega)⟩
    rw [eX12_paste_0, if_pos h.1.1, wl_eq, if_pos k0, tk]
    simp only [bI]
    rw [if_pos k1, A1.isRow r]
    simp only [ite10]
    by_cases c : isR A r
    · rw [if_pos c, if_pos k1, ab]
      simp only [ite10]
      rw [if_neg (fun z => v ⟨c, z⟩)]
    · rw [if_neg c]
end PA
