section MO5
variable {d : Nat} {w : sW} {m : Int}
/-- leaves j .. K of row r one down, and the last 0 -/
def shD (Y : Int → Int) (r j K : Int) : Int → Int := fun x => if x = 2816 + 151 * r + K then 0 else if 2816 + 151 * r + j ≤ x ∧ x < 2816 + 151 * r + K then Y (x + 1) else Y x
theorem l_joinLeaves (h : NwSh w m) {r k K low v : Int} (hr : 0 ≤ r ∧ r < 4) (hk : 0 ≤ k ∧ k < K) (hK : K ≤ 149) (hlow : 4 ≤ low ∧ low ≤ 32) (hv : 0 ≤ v ∧ v ≤ 2000) : ∀ (f : Nat) (j : Int) (Y : Int → Int), j + f = K → k < j → Y (2611 + r) = K → Y 1 = low → Y (2816 + 151 * r + k) = v → Rn (Ex pro (d + 2)) mX12_joinLeaves (45, [some (rV m), some (iV r), some (iV k), some (iV j)], [], sa w (m + 2) Y) (none, sa w (m + 2) (if 2 * low < v then splX (shD Y r j K) r k v K else shD Y r j K))
  | 0, j, Y, hj, hkj, hY, hY1, hYk => by
    have ee := fun (x : sW) (t : Int) (ht : 0 ≤ t ∧ t ≤ 10000) => o_leafAt (d := d + 1) (w := x) (m := m) (r := r) (k := t) hr ht
    have ej : j = K := by omega
    have eS : sa w (m + 2) (updI Y (2816 + 151 * r + K) 0) = sa w (m + 2) (shD Y r j K) := sa_eq fun x => by unfold shD updI; grind
    obtain ⟨a1, a2, a3, a4, a5⟩ := h.sa Y
    obtain ⟨b1, b2, b3, b4, b5⟩ := h.sa (shD Y r j K)
    have q1 : shD Y r j K (2816 + 151 * r + k) = v := by unfold shD; rw [if_neg (by omega), if_neg (by omega)]; exact hYk
    have q2 : shD Y r j K 1 = low := by unfold shD; rw [if_neg (by omega), if_neg (by omega)]; exact hY1
    have q3 : shD Y r j K (2611 + r) = K := by unfold shD; rw [if_neg (by omega), if_neg (by omega)]; exact hY
    have sp := o_splitLeaf (d := d) h (r := r) (k := k) (X := shD Y r j K) hr (by omega) (by omega) (by omega)
    rw [q1, q3] at sp
    refine Rn.ret ?_
    rw [eX12_joinLeaves_45, if_pos a1, a2, w32_eq (x := 2611 + r) (by omega) (by omega), if_pos ⟨a3, by omega, by omega⟩, gvA, if_pos rfl, hY, if_neg (by omega), if_pos a1, if_pos a1, if_pos ⟨a3, by omega, by omega⟩, if_pos a1, ee _ K (by omega)]
    simp only [bI, wl_eq]
    rw [if_pos ⟨⟨a3, by omega⟩, by omega, by omega⟩, sa_sv, eS, if_pos b1, if_pos b1, ee _ k (by omega)]
    simp only []
    rw [b2, if_pos ⟨b3, by omega, by omega⟩, if_pos b1, if_pos ⟨b3, by omega, by omega⟩, gvA, if_pos rfl, gvA, if_pos rfl, q1, q2, w32_eq (x := 2 * low) (by omega) (by omega)]
    by_cases c : 2 * low < v
    · rw [if_pos c, if_pos c, if_pos b1, sp]
      rfl
    · rw [if_neg c, if_neg c]
  | f + 1, j, Y, hj, hkj, hY, hY1, hYk => by
    have ee := fun (x : sW) (t : Int) (ht : 0 ≤ t ∧ t ≤ 10000) => o_leafAt (d := d + 1) (w := x) (m := m) (r := r) (k := t) hr ht
    have ih := l_joinLeaves h hr hk hK hlow hv f (j + 1) (updI Y (2816 + 151 * r + j) (Y (2816 + 151 * r + (j + 1)))) (by omega) (by omega) (by unfold updI; rw [if_neg (by omega)]; exact hY) (by unfold updI; rw [if_neg (by omega)]; exact hY1) (by unfold updI; rw [if_neg (by omega)]; exact hYk)
    rw [show shD (updI Y (2816 + 151 * r + j) (Y (2816 + 151 * r + (j + 1)))) r (j + 1) K = shD Y r j K from funext fun x => by unfold shD updI; grind] at ih
    obtain ⟨a1, a2, a3, a4, a5⟩ := h.sa Y
    refine Rn.cut ?_ ih
    rw [eX12_joinLeaves_45, if_pos a1, a2, w32_eq (x := 2611 + r) (by omega) (by omega), if_pos ⟨a3, by omega, by omega⟩, gvA, if_pos rfl, hY, if_pos (by omega), if_pos a1, if_pos a1, ee _ j (by omega)]
    simp only [bI, wl_eq]
    rw [if_pos a1, if_pos a1, w32_eq (x := j + 1) (by omega) (by omega), ee _ (j + 1) (by omega)]
    simp only []
    rw [a2, if_pos ⟨a3, by omega, by omega⟩, if_pos ⟨⟨a3, by omega⟩, by omega, by omega⟩, gvA, if_pos rfl, sa_sv]
theorem o_joinLeaves (h : NwSh w m) {r n K j low : Int} {b l X : Int → Int} (hr : 0 ≤ r ∧ r < 4) (hM : MR X r (n, b, K, l)) (hn : n ≤ 600) (hX : X 1 = low) (hlow : 4 ≤ low ∧ low ≤ 32) (hj : 0 ≤ j ∧ j + 1 < K) (hK : K ≤ 150) (hl : 0 ≤ l j ∧ l j ≤ 1000) (hl' : 0 ≤ l (j + 1) ∧ l (j + 1) ≤ 1000) : ∃ X', Ex pro (d + 3) 186 (sa w (m + 2) X) [rV m, iV r, iV j] = some (none, sa w (m + 2) X') ∧ MR X' r (n, b, halK (merL l j) (K - 1) j low, halL (merL l j) (K - 1) j low) ∧ ∀ x, ¬ rowC r x → X' x = X x := by
  obtain ⟨m1, m2, m3, m4, m5⟩ := hM
  simp only at m1 m2 m3 m4 m5
  have hmj : merL l j j = l j + l (j + 1) := by unfold merL; simp
  have z1 : ∀ x, x ≠ 2816 + 151 * r + j → x ≠ 2611 + r → updI (updI X (2816 + 151 * r + j) (l j + l (j + 1))) (2611 + r) (K - 1) x = X x := fun x x1 x2 => by unfold updI; rw [if_neg x2, if_neg x1]
  have z2 : updI (updI X (2816 + 151 * r + j) (l j + l (j + 1))) (2611 + r) (K - 1) (2611 + r) = K - 1 := by unfold updI; simp
  have z3 : updI (updI X (2816 + 151 * r + j) (l j + l (j + 1))) (2611 + r) (K - 1) (2816 + 151 * r + j) = l j + l (j + 1) := by unfold updI; rw [if_neg (by omega), if_pos rfl]
  have e := l_joinLeaves (d := d) h (r := r) (k := j) (K := K - 1) (low := low) (v := l j + l (j + 1)) hr (by omega) (by omega) hlow (by omega) (K - 1 - (j + 1)).toNat (j + 1) (updI (updI X (2816 + 151 * r + j) (l j + l (j + 1))) (2611 + r) (K - 1)) (by omega) (by omega) z2 (by rw [z1 1 (by omega) (by omega)]; exact hX) z3
  have g : MR (shD (updI (updI X (2816 + 151 * r + j) (l j + l (j + 1))) (2611 + r) (K - 1)) r (j + 1) (K - 1)) r (n, b, K - 1, merL l j) := by
    refine ⟨?_, ?_, fun x x1 x2 => ?_, fun x x1 x2 => ?_, fun x x1 x2 => ?_⟩
    · show shD _ r (j + 1) (K - 1) (2607 + r) = n
      unfold shD
      rw [if_neg (by omega), if_neg (by omega), z1 _ (by omega) (by omega)]; exact m1
    · show shD _ r (j + 1) (K - 1) (2611 + r) = K - 1
      unfold shD
      rw [if_neg (by omega), if_neg (by omega), z2]
    · change x < n at x2
      show shD _ r (j + 1) (K - 1) (3420 + 600 * r + x) = b x
      unfold shD
      rw [if_neg (by omega), if_neg (by omega), z1 _ (by omega) (by omega)]; exact m3 x x1 x2
    · change x < K - 1 at x2
      show shD _ r (j + 1) (K - 1) (2816 + 151 * r + x) = merL l j x
      unfold shD merL
      by_cases c1 : x < j
      · rw [if_neg (by omega), if_neg (by omega), z1 _ (by omega) (by omega), if_pos c1]; exact m4 x x1 (by omega)
      · by_cases c2 : x = j
        · rw [if_neg (by omega), if_neg (by omega), c2, z3]
          simp
        · rw [if_neg (by omega), if_pos (by omega), z1 _ (by omega) (by omega), if_neg c1, if_neg c2, show 2816 + 151 * r + x + 1 = 2816 + 151 * r + (x + 1) by omega]; exact m4 (x + 1) (by omega) (by omega)
    · change K - 1 ≤ x at x1
      show shD _ r (j + 1) (K - 1) (2816 + 151 * r + x) = 0
      unfold shD
      by_cases c1 : x = K - 1
      · rw [if_pos (by omega)]
      · rw [if_neg (by omega), if_neg (by omega), z1 _ (by omega) (by omega)]; exact m5 x (by omega) x2
  have g2 := MR_spl (low := low) g hr hn (j := j) (by omega) (by omega) (by omega)
  rw [hmj] at g2
  refine ⟨_, xX12_joinLeaves (Rn.cut ?_ e), g2, fun x hx => ?_⟩
  · have ee := fun (x : sW) (t : Int) (ht : 0 ≤ t ∧ t ≤ 10000) => o_leafAt (d := d + 1) (w := x) (m := m) (r := r) (k := t) hr ht
    obtain ⟨a1, a2, a3, a4, a5⟩ := h.sa X
    obtain ⟨b1, b2, b3, b4, b5⟩ := h.sa (updI X (2816 + 151 * r + j) (l j + l (j + 1)))
    have q1 : updI X (2816 + 151 * r + j) (l j + l (j + 1)) (2611 + r) = K := by unfold updI; rw [if_neg (by omega)]; exact m2
    rw [eX12_joinLeaves_0, if_pos a1, if_pos a1, ee _ j (by omega)]
    simp only [bI, wl_eq]
    rw [a2, if_pos ⟨a3, by omega, by omega⟩, if_pos a1, if_pos a1, w32_eq (x := j + 1) (by omega) (by omega), ee _ (j + 1) (by omega)]
    simp only []
    rw [if_pos ⟨a3, by omega, by omega⟩, if_pos ⟨⟨a3, by omega⟩, by omega, by omega⟩, gvA, if_pos rfl, gvA, if_pos rfl, m4 j hj.1 (by omega), m4 (j + 1) (by omega) hj.2, w32_eq (x := l j + l (j + 1)) (by omega) (by omega), sa_sv, if_pos b1, b2, w32_eq (x := 2611 + r) (by omega) (by omega), if_pos ⟨b3, by omega, by omega⟩, if_pos ⟨⟨b3, by omega⟩, by omega, by omega⟩, gvA, if_pos rfl, q1, sa_sv, w32_eq (x := K - 1) (by omega) (by omega)]
  · have y : shD (updI (updI X (2816 + 151 * r + j) (l j + l (j + 1))) (2611 + r) (K - 1)) r (j + 1) (K - 1) x = X x := by
      have hx' := hx
      unfold rowC at hx'
      unfold shD
      rw [if_neg (by omega), if_neg (by omega), z1 _ (by omega) (by omega)]
    by_cases c : 2 * low < l j + l (j + 1)
    · rw [if_pos c, splX_fr hr (by omega) (by omega) hx]; exact y
    · rw [if_neg c]; exact y
end MO5
