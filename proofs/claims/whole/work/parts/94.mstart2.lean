/-! ===== a room put in place: its rows ===== -/
section MS2
variable {d : Nat} {w : sW} {m : Int}
theorem MI_z {X : Int → Int} {r low : Int} (h : ∀ x, rowC r x → X x = 0) (hl : 4 ≤ low ∧ low ≤ 32) : MI X r Z0 low := by
  refine ⟨⟨h _ (Or.inl rfl), h _ (Or.inr (Or.inl rfl)), fun i i0 i1 => by change i < 0 at i1; omega, fun j j0 j1 => by change j < 0 at j1; omega, fun j j0 j1 => h _ ?_⟩, LvOk.zero hl, fun i i0 i1 => by change i < 0 at i1; omega⟩
  change 0 ≤ j at j0
  unfold rowC
  omega
theorem l_st38 (h : NwSh w m) {r low : Int} {s : Nat} {u : Int → Int} (hr : 0 ≤ r ∧ r < 4) (hs : s ≤ 600) (hu : ∀ i, 0 ≤ i → i < (s : Int) → u i = 0 ∨ u i = 1) : ∀ (f k : Nat) (X : Int → Int), k + f = s → X 1 = low → X (2 + r) = s → (∀ i, 0 ≤ i → i < (s : Int) → X (207 + 600 * r + i) = u i) → MI X r (appR u low 0 k Z0) low → ∃ X', (∀ res, Rn (Ex pro (d + 3)) mX12_startSo (26, [some (rV m), some (iV (r + 1)), none], [], sa w (m + 2) X') res → Rn (Ex pro (d + 3)) mX12_startSo (38, [some (rV m), some (iV r), some (iV k)], [], sa w (m + 2) X) res) ∧ MI X' r (appR u low 0 s Z0) low ∧ ∀ x, ¬ rowC r x → X' x = X x
  | 0, k, X, hk, h1, h2, hx, hM => by
    have ks : k = s := by omega
    subst ks
    refine ⟨X, fun res g => Rn.cut ?_ g, hM, fun x _ => rfl⟩
    have hh := h.sa X
    have g2 : gv (sa w (m + 2) X) (m + 2) (2 + r) = k := by rw [gvA, if_pos rfl]; exact h2
    rw [eX12_startSo_38, if_pos hh.1, hh.2.1, w32_eq (x := 2 + r) (by omega) (by omega), if_pos ⟨hh.2.2.1, by omega, by rw [hh.2.2.2.1]; omega⟩, g2, if_neg (by omega), w32_eq (by omega) (by omega)]
  | f + 1, k, X, hk, h1, h2, hx, hM => by
    have hh := h.sa X
    have n := appR_n (low := low) u k 0 Z0
    have z0 : Z0.1 = 0 := rfl
    obtain ⟨X1, a1, a2, a3⟩ := o_putBit (d := d) h hr h1 hM (by omega) (i := (appR u low 0 k Z0).1) (v := u (0 + (k : Int))) (by omega) (hu _ (by omega) (by omega))
    rw [← appR_end] at a2
    have c1 : ¬ rowC r 1 := by unfold rowC; omega
    have c2 : ¬ rowC r (2 + r) := by unfold rowC; omega
    obtain ⟨X', g1, g2, g3⟩ := l_st38 h hr hs hu f (k + 1) X1 (by omega) (by rw [a3 _ c1]; exact h1) (by rw [a3 _ c2]; exact h2) (fun i i0 i1 => by
      rw [a3 _ (by unfold rowC; omega)]
      exact hx i i0 i1) a2
    refine ⟨X', fun res g => Rn.cut ?_ (g1 res g), g2, fun x hx => (g3 x hx).trans (a3 x hx)⟩
    have q2 : gv (sa w (m + 2) X) (m + 2) (2 + r) = s := by rw [gvA, if_pos rfl]; exact h2
    have qb : gv (sa w (m + 2) X) (m + 2) (207 + 600 * r + k) = u (0 + (k : Int)) := by rw [gvA, if_pos rfl, hx k (by omega) (by omega), show (0 : Int) + k = k by omega]
    rw [show (appR u low 0 k Z0).1 = (k : Int) by omega] at a1
    rw [eX12_startSo_38, if_pos hh.1, hh.2.1, w32_eq (x := 2 + r) (by omega) (by omega), if_pos ⟨hh.2.2.1, by omega, by rw [hh.2.2.2.1]; omega⟩, q2, if_pos (by omega), if_pos hh.1, w32_eq (x := 600 * r) (by omega) (by omega), w32_eq (x := 207 + 600 * r) (by omega) (by omega), w32_eq (x := 207 + 600 * r + k) (by omega) (by omega), if_pos ⟨hh.2.2.1, by omega, by rw [hh.2.2.2.1]; omega⟩, if_pos hh.1, qb, a1]
    simp only [bN]
    rw [w32_eq (by omega) (by omega)]
    rfl
/-- the numbers X tell the room A -/
def TX (X : Int → Int) (A : Rm) : Prop := (X 0 = A.1 ∧ X 1 = A.2.1) ∧ (0 ≤ A.1 ∧ A.1 ≤ 4) ∧ (4 ≤ A.2.1 ∧ A.2.1 ≤ 32) ∧ (∀ r, 0 ≤ r → r < A.1 → RX X r A.2.1 (A.2.2.2.1 r)) ∧ X 6 = A.2.2.2.2.1 ∧ (0 ≤ A.2.2.2.2.1 ∧ A.2.2.2.2.1 ≤ 200) ∧ ∀ i, 0 ≤ i → i < A.2.2.2.2.1 → X (7 + i) = A.2.2.2.2.2 i ∧ 0 ≤ A.2.2.2.2.2 i ∧ A.2.2.2.2.2 i < 8
theorem TX.cg {X Y : Int → Int} {A : Rm} (h : TX X A) (e : ∀ x, 0 ≤ x → x < 2607 → Y x = X x) : TX Y A := by
  obtain ⟨h1, h2, h3, h4, h5, h6, h7⟩ := h
  refine ⟨⟨by rw [e 0 (by omega) (by omega)]; exact h1.1, by rw [e 1 (by omega) (by omega)]; exact h1.2⟩, h2, h3, fun r r0 r1 => (h4 r r0 r1).cg (e _ (by omega) (by omega)) (fun i i0 i1 => e _ (by omega) (by omega)), by rw [e 6 (by omega) (by omega)]; exact h5, h6, fun i i0 i1 => ?_⟩
  rw [e _ (by omega) (by omega)]
  exact h7 i i0 i1
theorem l_st26 (h : NwSh w m) {A : Rm} : ∀ (f : Nat) (r : Int) (X : Int → Int), r + f = A.1 → 0 ≤ r → TX X A → (∀ r', 0 ≤ r' → r' < r → MI X r' (A.2.2.2.1 r') A.2.1) → (∀ r', r ≤ r' → r' < 4 → ∀ x, rowC r' x → X x = 0) → ∃ X', (∀ res, Rn (Ex pro (d + 3)) mX12_startSo (101, [some (rV m), some (iV 0), none], [], sa w (m + 2) X') res → Rn (Ex pro (d + 3)) mX12_startSo (26, [some (rV m), some (iV r), none], [], sa w (m + 2) X) res) ∧ (∀ r', 0 ≤ r' → r' < A.1 → MI X' r' (A.2.2.2.1 r') A.2.1) ∧ X' 2615 = X 6 ∧ ∀ x, x < 2607 ∨ 5820 ≤ x → X' x = X x
  | 0, r, X, hr, hr0, hT, hM, hz => by
    have hh := h.sa X
    have g0 : gv (sa w (m + 2) X) (m + 2) 0 = A.1 := by rw [gvA, if_pos rfl]; exact hT.1.1
    have g6 : gv (sa w (m + 2) X) (m + 2) 6 = X 6 := by rw [gvA, if_pos rfl]
    have hA := hT.2.1
    refine ⟨updI X 2615 (X 6), fun res g => Rn.cut ?_ g, fun r' r0 r1 => (hM r' r0 (by omega)).fr (fun x hx => ?_), by unfold updI; rw [if_pos rfl], fun x hx => by unfold updI; rw [if_neg (by omega)]⟩
    · rw [eX12_startSo_26, if_pos hh.1, hh.2.1, if_pos ⟨hh.2.2.1, by omega, by rw [hh.2.2.2.1]; omega⟩, g0, if_neg (by omega), if_pos hh.1, if_pos hh.1, if_pos ⟨hh.2.2.1, by omega, by rw [hh.2.2.2.1]; omega⟩, if_pos ⟨⟨hh.2.2.1, by have := h.2.2.2.2; omega⟩, by omega, by rw [hh.2.2.2.1]; omega⟩, g6, wl_eq, sa_sv]
    · unfold rowC at hx
      unfold updI
      rw [if_neg (by omega)]
  | f + 1, r, X, hr, hr0, hT, hM, hz => by
    have hh := h.sa X
    have hA := hT.2.1
    have g0 : gv (sa w (m + 2) X) (m + 2) 0 = A.1 := by rw [gvA, if_pos rfl]; exact hT.1.1
    obtain ⟨s, x1, x2, x3, x4⟩ := hT.2.2.2.1 r hr0 (by omega)
    obtain ⟨X1, a1, a2, a3⟩ := l_st38 (d := d) h (r := r) (low := A.2.1) (s := s) (u := fun i => X (207 + 600 * r + i)) (by omega) x2 x4 s 0 X (by omega) hT.1.2 x1 (fun i i0 i1 => rfl) (MI_z (hz r (by omega) (by omega)) hT.2.2.1)
    rw [← x3] at a2
    have T1 : TX X1 A := hT.cg (fun x x0 x1 => a3 x (by unfold rowC; omega))
    obtain ⟨X', g1, g2, g3, g4⟩ := l_st26 h f (r + 1) X1 (by omega) (by omega) T1 (fun r' r0 r1 => by
      by_cases z : r' = r
      · rw [z]; exact a2
      · exact (hM r' r0 (by omega)).fr (fun x hx => a3 x (by unfold rowC at hx ⊢; omega))) (fun r' r0 r1 x hx => by
      rw [a3 x (by unfold rowC at hx ⊢; omega)]
      exact hz r' (by omega) r1 x hx)
    refine ⟨X', fun res g => Rn.cut ?_ (a1 _ (g1 res g)), g2, by rw [g3, a3 6 (by unfold rowC; omega)], fun x hx => by rw [g4 x hx, a3 x (by unfold rowC; omega)]⟩
    rw [eX12_startSo_26, if_pos hh.1, hh.2.1, if_pos ⟨hh.2.2.1, by omega, by rw [hh.2.2.2.1]; omega⟩, g0, if_pos (by omega)]
    rfl
theorem o_startSo (h : NwSh w m) {A : Rm} {X : Int → Int} (hT : TX X A) : ∃ X', Ex pro (d + 4) 170 (sa w (m + 2) X) [rV m] = some (none, sa w (m + 2) X') ∧ MX X' A ∧ (∀ x, x < 2607 → X' x = X x) ∧ ∀ x, 5820 ≤ x → x < 6062 → X' x = 0 := by
  obtain ⟨X1, a1, a2, a3⟩ := l_st4 (d := d + 3) h 3455 2607 X (by omega) (by omega)
  have hA := hT.2.1
  have T1 : TX X1 A := hT.cg (fun x x0 x1 => a3 x x1)
  obtain ⟨X2, b1, b2, b3, b4⟩ := l_st26 (d := d) h (A := A) A.1.toNat 0 X1 (by omega) (by omega) T1 (fun r' r0 r1 => by omega) (fun r' r0 r1 x hx => a2 x (by unfold rowC at hx; omega) (by unfold rowC at hx; omega))
  obtain ⟨X3, c1, c2, c3⟩ := l_st101 (d := d + 3) h 200 0 X2 (by omega) (by omega)
  have T2 : TX X2 A := T1.cg (fun x x0 x1 => b4 x (Or.inl x1))
  refine ⟨X3, xX12_startSo (Rn.cut (eX12_startSo_0 _ _ _) (a1 _ (b1 _ c1))), ?_, fun x hx => by rw [c3 x (by omega), b4 x (Or.inl hx), a3 x hx], fun x x0 x1 => by rw [c3 x (by omega), b4 x (Or.inr x0), a2 x (by omega) x1]⟩
  refine ⟨by rw [c3 _ (by omega)]; exact T2.1.1, by rw [c3 _ (by omega)]; exact T2.1.2, T2.2.1, T2.2.2.1, fun r r0 r1 => (b2 r r0 r1).fr (fun x hx => c3 x (by unfold rowC at hx; omega)), by rw [c3 _ (by omega), b3]; exact T1.2.2.2.2.1, T2.2.2.2.2.2.1, fun i i0 i1 => ?_⟩
  rw [c2 i i0 (by have := T2.2.2.2.2.2.1; omega)]
  exact T2.2.2.2.2.2.2 i i0 i1
end MS2
