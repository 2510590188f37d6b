/-! ===== the reference's deeds done: turn, letters, and all of them ===== -/
section ML3
variable {d : Nat} {w : sW} {m : Int} {A : Rm}
def turX (X : Int → Int) (r p q : Int) : Int → Int := fun x => if 3420 + 600 * r + p ≤ x ∧ x < 3420 + 600 * r + q then 1 - X x else X x
theorem l_turn (h : NwSh w m) {r i n : Int} (hr : 0 ≤ r ∧ r < 4) (hi : 0 ≤ i) (hn : i + n ≤ 600) : ∀ (f : Nat) (p : Int) (X : Int → Int), p + f = i + n → i ≤ p → (∀ x, p ≤ x → x < i + n → X (3420 + 600 * r + x) = 0 ∨ X (3420 + 600 * r + x) = 1) → Rn (Ex pro (d + 1)) mX12_live (98, [some (rV m), none, some (iV r), some (iV i), some (iV n), some (iV p)], [], sa w (m + 2) X) (none, sa w (m + 2) (turX X r p (i + n)))
  | 0, p, X, hp, hip, hb => by
    rw [show turX X r p (i + n) = X from funext fun x => by unfold turX; rw [if_neg (by omega)]]
    refine Rn.ret ?_
    rw [eX12_live_98, w32_eq (by omega) (by omega), if_neg (by omega)]
  | f + 1, p, X, hp, hip, hb => by
    have h' := h.sa X
    have e0 := o_bitOf (d := d) h' hr (i := p) (by omega)
    rw [gvA_self] at e0
    have b := hb p (by omega) (by omega)
    have ih := l_turn h hr hi hn f (p + 1) (updI X (3420 + 600 * r + p) (1 - X (3420 + 600 * r + p))) (by omega) (by omega) (fun x x0 x1 => by rw [updI_ne (by omega)]; exact hb x (by omega) x1)
    rw [show turX (updI X (3420 + 600 * r + p) (1 - X (3420 + 600 * r + p))) r (p + 1) (i + n) = turX X r p (i + n) from funext fun x => by
      unfold turX updI
      by_cases c : x = 3420 + 600 * r + p
      · rw [if_neg (by omega), if_pos c, if_pos (by omega), c]
      · rw [if_neg c]
        by_cases c2 : 3420 + 600 * r + p ≤ x ∧ x < 3420 + 600 * r + (i + n)
        · rw [if_pos c2, if_pos (by omega)]
        · rw [if_neg c2, if_neg (by omega)]] at ih
    refine Rn.cut ?_ ih
    rw [eX12_live_98, w32_eq (x := i + n) (by omega) (by omega), if_pos (by omega), if_pos h'.1, if_pos h'.1, e0]
    simp only [bI]
    rw [w32_eq (x := 600 * r) (by omega) (by omega), w32_eq (x := 3420 + 600 * r) (by omega) (by omega), w32_eq (x := 3420 + 600 * r + p) (by omega) (by omega), w32_eq (x := 1 - X (3420 + 600 * r + p)) (by omega) (by omega), w32_eq (x := p + 1) (by omega) (by omega), h'.2.1, if_pos ⟨⟨h'.2.2.1, by have := h.2.2.2.2; omega⟩, by omega, by rw [h'.2.2.2.1]; omega⟩, wl_eq, sa_sv]
theorem MI.tur {X : Int → Int} {r low i n : Int} {R : Rw} (h : MI X r R low) (hr : 0 ≤ r ∧ r < 4) (hi : 0 ≤ i) (hn : i + n ≤ R.1) : MI (turX X r i (i + n)) r (turR R i n) low := by
  obtain ⟨⟨h1, h2, h3, h4, h5⟩, h6, h7⟩ := h
  have k := h6.k
  have k0 := h6.2.2.1
  have n6 := h6.2.1
  refine ⟨⟨?_, ?_, fun x x0 x1 => ?_, fun j j0 j1 => ?_, fun j j0 j1 => ?_⟩, h6, fun x x0 x1 => ?_⟩
  · unfold turX; rw [if_neg (by omega)]; exact h1
  · unfold turX; rw [if_neg (by omega)]; exact h2
  · have x1' : x < R.1 := x1
    unfold turX turR
    simp only []
    rw [h3 x x0 x1]
    by_cases c : i ≤ x ∧ x < i + n
    · rw [if_pos (by omega), if_pos c]
    · rw [if_neg (by omega), if_neg c]
  · have j1' : j < R.2.2.1 := j1
    unfold turX; rw [if_neg (by omega)]; exact h4 j j0 j1
  · unfold turX; rw [if_neg (by omega)]; exact h5 j j0 j1
  · have := h7 x x0 x1
    unfold turR
    simp only []
    split <;> omega
/-- letters put in -/
theorem l_type (h : NwSh w m) {i n : Int} (hi : 0 ≤ i) {C : sC} : ∀ (f : Nat) (p : Int) (X : Int → Int), p = i + f → p < 200 → (0 ≤ X 2615 ∧ X 2615 < 1000) → Rn C mX12_live (168, [some (rV m), none, none, some (iV i), some (iV n), some (iV p)], [], sa w (m + 2) X) (none, sa w (m + 2) (fun x => if x = 2615 then X 2615 + 1 else if x = 2616 + i then n else if 2616 + i < x ∧ x ≤ 2616 + p then X (x - 1) else X x))
  | 0, p, X, hp, h2, hX => by
    have h' := h.sa X
    have h'' := h'.sa (updI X (2616 + i) n)
    rw [sa_sa] at h''
    have m32 := h.2.2.2.2
    have e1 : gv (sa w (m + 2) (updI X (2616 + i) n)) (m + 2) 2615 = X 2615 := by rw [gvA_self, updI_ne (by omega)]
    refine Rn.ret ?_
    rw [eX12_live_168, if_neg (by omega), if_pos h'.1, w32_eq (x := 2616 + i) (by omega) (by omega), h'.2.1, if_pos ⟨⟨h'.2.2.1, by omega⟩, by omega, by rw [h'.2.2.2.1]; omega⟩, wl_eq, sa_sv, if_pos h''.1, if_pos (h''.g (by omega) (by omega)), h''.2.1, if_pos ⟨⟨h''.2.2.1, by omega⟩, by omega, by rw [h''.2.2.2.1]; omega⟩, wl_eq, e1, sa_sv, w32_eq (by omega) (by omega)]
    rw [show updI (updI X (2616 + i) n) 2615 (X 2615 + 1) = (fun x => if x = 2615 then X 2615 + 1 else if x = 2616 + i then n else if 2616 + i < x ∧ x ≤ 2616 + p then X (x - 1) else X x) from funext fun x => by
      unfold updI
      split
      · rfl
      · split
        · rfl
        · rw [if_neg (by omega)]]
  | f + 1, p, X, hp, h2, hX => by
    have h' := h.sa X
    have m32 := h.2.2.2.2
    have ih := l_type h hi (n := n) (C := C) f (p - 1) (updI X (2616 + p) (X (2616 + p - 1))) (by omega) (by omega) (by rw [updI_ne (by omega)]; exact hX)
    rw [show (fun x => if x = 2615 then updI X (2616 + p) (X (2616 + p - 1)) 2615 + 1 else if x = 2616 + i then n else if 2616 + i < x ∧ x ≤ 2616 + (p - 1) then updI X (2616 + p) (X (2616 + p - 1)) (x - 1) else updI X (2616 + p) (X (2616 + p - 1)) x) = (fun x => if x = 2615 then X 2615 + 1 else if x = 2616 + i then n else if 2616 + i < x ∧ x ≤ 2616 + p then X (x - 1) else X x) from funext fun x => by
      rw [updI_ne (show (2615 : Int) ≠ 2616 + p by omega)]
      split
      · rfl
      · split
        · rfl
        · unfold updI
          by_cases c : x = 2616 + p
          · rw [if_neg (by omega), if_pos c, if_pos (by omega), c]
          · by_cases c2 : 2616 + i < x ∧ x ≤ 2616 + p
            · rw [if_pos (by omega), if_neg (by omega), if_pos c2]
            · rw [if_neg (by omega), if_neg c, if_neg c2]] at ih
    refine Rn.cut ?_ ih
    rw [eX12_live_168, if_pos (by omega), if_pos h'.1, if_pos h'.1, w32_eq (x := 2616 + p) (by omega) (by omega), w32_eq (x := 2616 + p - 1) (by omega) (by omega), if_pos (h'.g (by omega) (by omega)), h'.2.1, if_pos ⟨⟨h'.2.2.1, by omega⟩, by omega, by rw [h'.2.2.2.1]; omega⟩, wl_eq, gvA_self, sa_sv, w32_eq (x := p + -1) (by omega) (by omega)]
    rfl
/-- letters taken out -/
theorem l_erase (h : NwSh w m) {n : Int} (hn : 1 ≤ n) {C : sC} : ∀ (f : Nat) (p : Int) (X : Int → Int), p + f = 200 → 0 ≤ p → (0 ≤ X 2615 ∧ X 2615 + n ≤ 200) → Rn C mX12_live (245, [some (rV m), none, none, none, some (iV n), some (iV p)], [], sa w (m + 2) X) (none, sa w (m + 2) (fun x => if 2616 + p ≤ x ∧ x < 2816 then (if x - 2616 < X 2615 then X (x + n) else 0) else X x))
  | 0, p, X, hp, h0, hX => by
    rw [show (fun x => if 2616 + p ≤ x ∧ x < 2816 then (if x - 2616 < X 2615 then X (x + n) else 0) else X x) = X from funext fun x => by rw [if_neg (by omega)]]
    refine Rn.ret ?_
    rw [eX12_live_245, if_neg (by omega)]
  | f + 1, p, X, hp, h0, hX => by
    have h' := h.sa X
    have m32 := h.2.2.2.2
    have ih := l_erase h hn (C := C) f (p + 1) (updI X (2616 + p) (if p < X 2615 then X (2616 + p + n) else 0)) (by omega) (by omega) (by rw [updI_ne (by omega)]; exact hX)
    rw [show (fun x => if 2616 + (p + 1) ≤ x ∧ x < 2816 then (if x - 2616 < updI X (2616 + p) (if p < X 2615 then X (2616 + p + n) else 0) 2615 then updI X (2616 + p) (if p < X 2615 then X (2616 + p + n) else 0) (x + n) else 0) else updI X (2616 + p) (if p < X 2615 then X (2616 + p + n) else 0) x) = (fun x => if 2616 + p ≤ x ∧ x < 2816 then (if x - 2616 < X 2615 then X (x + n) else 0) else X x) from funext fun x => by
      rw [updI_ne (show (2615 : Int) ≠ 2616 + p by omega)]
      by_cases c : x = 2616 + p
      · subst c
        rw [if_neg (by omega), if_pos (show 2616 + p ≤ 2616 + p ∧ 2616 + p < 2816 by omega)]
        unfold updI
        rw [if_pos rfl, show 2616 + p - 2616 = p by omega]
      · rw [updI_ne c]
        by_cases c2 : 2616 + p ≤ x ∧ x < 2816
        · rw [if_pos (by omega), if_pos c2, updI_ne (by omega)]
        · rw [if_neg (by omega), if_neg c2]] at ih
    refine Rn.cut ?_ ih
    have g2 : (kd (sa w (m + 2) X) (m + 2) = 20 ∧ 32 ≤ m + 2) ∧ 0 ≤ 2616 + p ∧ 2616 + p < ln (sa w (m + 2) X) (m + 2) := ⟨⟨h'.2.2.1, by omega⟩, by omega, by rw [h'.2.2.2.1]; omega⟩
    have g1 := h'.g (j := 2615) (by omega) (by omega)
    rw [h'.2.1] at g1
    rw [eX12_live_245, if_pos (by omega), if_pos h'.1, if_pos h'.1, if_pos h'.1, w32_eq (x := 2616 + p) (by omega) (by omega), w32_eq (x := p + 1) (by omega) (by omega), h'.2.1, if_pos g1, gvA_self]
    by_cases c : p < X 2615
    · rw [if_pos c, if_pos c, w32_eq (x := 2616 + p + n) (by omega) (by omega), if_pos ⟨h'.2.2.1, by omega, by rw [h'.2.2.2.1]; omega⟩, if_pos g2, wl_eq, sa_sv]
    · rw [if_neg c, if_neg c, if_pos g2, wl_eq, sa_sv]
end ML3
