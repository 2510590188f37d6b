section MO4
variable {d : Nat} {w : sW} {m : Int}
theorem insJ_0 {n k low : Int} {l : Int → Int} (h : LvOk n k l low) : insJ l n k 0 = 0 := by
  unfold insJ
  rw [if_pos rfl]
  by_cases c : k = 0
  · have := leafW_rg (l := insL0 l k) (n := n) (k := insK0 k) (by unfold insK0; rw [if_pos c]; omega) 0
    have e : insK0 k = 1 := by unfold insK0; rw [if_pos c]
    omega
  · have e1 : insK0 k = k := by unfold insK0; rw [if_neg c]
    have e2 : insL0 l k = l := by unfold insL0; rw [if_neg c]
    obtain ⟨h1, h2, h3, h4, h5⟩ := h
    rw [e1, e2, leafW_eq (by omega) (fun x x1 x2 => by have := h5 x x1 x2; omega) h4]
    by_cases c2 : k = 1
    · subst c2
      rfl
    · have := h5 0 (by omega) (by omega)
      rw [show (k - 1).toNat = (k - 2).toNat + 1 by omega]
      simp only [lfw]
      rw [if_pos (by omega)]
theorem o_putBit (h : NwSh w m) {r i v low : Int} {R : Rw} {X : Int → Int} (hr : 0 ≤ r ∧ r < 4) (hX : X 1 = low) (hM : MI X r R low) (hn : R.1 < 600) (hi : 0 ≤ i ∧ i ≤ R.1) (hv : v = 0 ∨ v = 1) : ∃ X', Ex pro (d + 3) 185 (sa w (m + 2) X) [rV m, iV r, iV i, iV v] = some (none, sa w (m + 2) X') ∧ MI X' r (insR R i v low) low ∧ ∀ x, ¬ rowC r x → X' x = X x := by
  obtain ⟨n, b, k, l⟩ := R
  obtain ⟨⟨m1, m2, m3, m4, m5⟩, hL, hB⟩ := hM
  simp only at m1 m2 m3 m4 m5 hL hB hn hi
  have hk := hL.k
  have hj := insJ_0 hL
  obtain ⟨h1, h2, h3, h4, h5⟩ := hL
  have hk0 : (k = 0 → insK0 k = 1) ∧ (k ≠ 0 → insK0 k = k) := by unfold insK0; grind
  have y1 : ∀ x, x < 3420 → updI (shU X r i n) (3420 + 600 * r + i) v x = X x := fun x hx => by
    unfold updI shU
    rw [if_neg (by omega), if_neg (by omega)]
  have y2 : ∀ x, 0 ≤ x → x < n + 1 → updI (shU X r i n) (3420 + 600 * r + i) v (3420 + 600 * r + x) = insB b i v x := fun x x1 x2 => by
    unfold updI shU insB
    by_cases z : x = i
    · rw [if_pos (by omega), if_neg (by omega), if_pos z]
    · by_cases z2 : x < i
      · rw [if_neg (by omega), if_neg (by omega), if_pos z2]
        exact m3 x x1 (by omega)
      · rw [if_neg (by omega), if_pos (by omega), if_neg z2, if_neg z, show 3420 + 600 * r + x - 1 = 3420 + 600 * r + (x - 1) by omega]
        exact m3 (x - 1) (by omega) (by omega)
  have y3 : ∀ x, ¬ rowC r x → updI (shU X r i n) (3420 + 600 * r + i) v x = X x := fun x hx => by
    unfold rowC at hx
    unfold updI shU
    rw [if_neg (by omega), if_neg (by omega)]
  generalize hZ : updI (shU X r i n) (3420 + 600 * r + i) v = Z at y1 y2 y3
  have hMZ : MR (if k = 0 then updI Z (2611 + r) 1 else Z) r (n, insB b i v, insK0 k, insL0 l k) := by
    by_cases c : k = 0
    · have e1 := hk0.1 c
      subst c
      rw [if_pos rfl, e1]
      refine ⟨?_, ?_, fun x x1 x2 => ?_, fun x x1 x2 => ?_, fun x x1 x2 => ?_⟩
      · show updI Z (2611 + r) 1 (2607 + r) = n
        unfold updI
        rw [if_neg (by omega), y1 _ (by omega), m1]
      · show updI Z (2611 + r) 1 (2611 + r) = 1
        unfold updI
        simp
      · change x < n at x2
        show updI Z (2611 + r) 1 (3420 + 600 * r + x) = insB b i v x
        unfold updI
        rw [if_neg (by omega), y2 x x1 (by omega)]
      · change x < 1 at x2
        have : x = 0 := by omega
        subst this
        show updI Z (2611 + r) 1 (2816 + 151 * r + 0) = insL0 l 0 0
        unfold updI insL0
        rw [if_neg (by omega), y1 _ (by omega), m5 0 (by omega) (by omega)]
        simp [updI]
      · change 1 ≤ x at x1
        show updI Z (2611 + r) 1 (2816 + 151 * r + x) = 0
        unfold updI
        rw [if_neg (by omega), y1 _ (by omega), m5 x (by omega) x2]
    · have e1 := hk0.2 c
      rw [if_neg c, e1]
      refine ⟨?_, ?_, fun x x1 x2 => ?_, fun x x1 x2 => ?_, fun x x1 x2 => ?_⟩
      · show Z (2607 + r) = n
        rw [y1 _ (by omega), m1]
      · show Z (2611 + r) = k
        rw [y1 _ (by omega), m2]
      · change x < n at x2
        exact y2 x x1 (by omega)
      · change x < k at x2
        show Z (2816 + 151 * r + x) = insL0 l k x
        unfold insL0
        rw [y1 _ (by omega), m4 x x1 x2, if_neg c]
      · change k ≤ x at x1
        show Z (2816 + 151 * r + x) = 0
        rw [y1 _ (by omega), m5 x x1 x2]
  have hl0 : ∀ x, 0 ≤ x → x < insK0 k → 0 ≤ insL0 l k x ∧ insL0 l k x ≤ 1000 := fun x x1 x2 => by
    unfold insL0 updI
    by_cases c : k = 0
    · have := hk0.1 c
      rw [if_pos c, if_pos (by omega)]
      omega
    · have := hk0.2 c
      have := h5 x x1 (by omega)
      rw [if_neg c]
      omega
  have hjr := leafW_rg (l := insL0 l k) (n := n) (k := insK0 k) (by by_cases c : k = 0 <;> grind) (if i = 0 then 0 else i - 1)
  change 0 ≤ insJ l n k i ∧ insJ l n k i < insK0 k at hjr
  obtain ⟨X', f1, f2, f3⟩ := l_put102 (d := d) h (j := insJ l n k i) hr (X := if k = 0 then updI Z (2611 + r) 1 else Z) (by
      by_cases c : k = 0
      · rw [if_pos c]
        unfold updI
        rw [if_neg (by omega), y1 _ (by omega)]; exact hX
      · rw [if_neg c, y1 _ (by omega)]; exact hX) h1 hMZ ⟨h2.1, hn⟩ hjr (by by_cases c : k = 0 <;> grind) (hl0 _ hjr.1 hjr.2) (insB b i v) (fun x x1 x2 => by
      by_cases c : k = 0
      · rw [if_pos c]
        unfold updI
        rw [if_neg (by omega)]; exact y2 x x1 x2
      · rw [if_neg c]; exact y2 x x1 x2)
  refine ⟨X', xX12_putBit (Rn.cut (c' := (18, [some (rV m), some (iV r), some (iV i), some (iV v), some (iV (3420 + 600 * r)), some (iV n)], [], sa w (m + 2) X)) ?_ (l_putShift h hr hi.1 (n - i).toNat n X (by omega) (by omega) (Rn.cut ?_ f1))), ⟨f2, LvOk.ins (⟨h1, h2, h3, h4, h5⟩ : LvOk n k l low) hn i, fun x x1 x2 => ?_⟩, fun x hx => ?_⟩
  · have e := o_sizeOf (d := d + 1) (h.sa X) hr
    rw [eX12_putBit_0, if_pos (h.sa X).1, e]
    simp only [bI]
    rw [gvA, if_pos rfl, m1, w32_eq (x := 600 * r) (by omega) (by omega), w32_eq (x := 3420 + 600 * r) (by omega) (by omega)]
  · obtain ⟨a1, a2, a3, a4, a5⟩ := h.sa (shU X r i n)
    obtain ⟨b1, b2, b3, b4, b5⟩ := h.sa Z
    rw [eX12_putBit_18, if_neg (by omega), if_pos a1, a2, w32_eq (x := 3420 + 600 * r + i) (by omega) (by omega), if_pos ⟨⟨a3, by omega⟩, by omega, by omega⟩, sa_sv, hZ]
    simp only [wl_eq]
    rw [if_pos b1, b2, w32_eq (x := 2611 + r) (by omega) (by omega), if_pos ⟨b3, by omega, by omega⟩, gvA, if_pos rfl, y1 _ (by omega), m2]
    by_cases c : k = 0
    · have c0 : n = 0 := by
        subst c
        simp [psm] at h4
        omega
      have ci : i = 0 := by omega
      subst ci
      rw [if_pos c, if_pos b1, if_pos ⟨⟨b3, by omega⟩, by omega, by omega⟩, if_pos rfl, sa_sv, hj, if_pos c]
    · rw [if_neg c, if_neg c]
      by_cases ci : i = 0
      · subst ci
        rw [if_pos rfl, hj]
      · have e1 := hk0.2 c
        have e2 : insL0 l k = l := by unfold insL0; rw [if_neg c]
        have e := o_leafOf (d := d) (h.sa Z) (p := i - 1) hr (k := k) (l := l) (by omega) (fun x x1 x2 => by
          rw [gvA, if_pos rfl, y1 _ (by omega), m4 x x1 x2]
          have := h5 x x1 x2
          exact ⟨rfl, by omega, by omega⟩) (by omega)
        rw [if_neg ci, if_pos b1, w32_eq (x := i - 1) (by omega) (by omega), e]
        simp only [bI]
        unfold insJ
        rw [if_neg ci, e1, e2, leafW_eq (by omega) (fun x x1 x2 => by have := h5 x x1 x2; omega) h4]
  · show insB b i v x = 0 ∨ insB b i v x = 1
    change x < n + 1 at x2
    unfold insB
    split
    · exact hB x x1 (by omega)
    · split
      · exact hv
      · exact hB (x - 1) (by omega) (by omega)
  · rw [f3 x hx]
    by_cases c : k = 0
    · rw [if_pos c]
      unfold updI
      rw [if_neg (by unfold rowC at hx; omega)]; exact y3 x hx
    · rw [if_neg c]; exact y3 x hx
end MO4
