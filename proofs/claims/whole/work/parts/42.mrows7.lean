theorem updI_ne {l : Int → Int} {j v x : Int} (h : x ≠ j) : updI l j v x = l x := if_neg h
section MO7
variable {d : Nat} {w : sW} {m : Int}
theorem l_takeEnd (h : NwSh w m) {r q n K low : Int} {b l Z : Int → Int} (hr : 0 ≤ r ∧ r < 4) (hn : 0 ≤ n ∧ n ≤ 599) (hZ1 : Z 1 = low) (hlow : 4 ≤ low ∧ low ≤ 32) (hq : 0 ≤ q ∧ q < K) (hK : K ≤ 150) (hl : ∀ x, 0 ≤ x → x < K → 1 ≤ l x ∧ l x ≤ 1000) (hM : MR (fun x => if x = 3420 + 600 * r + n then 0 else Z x) r (n, b, K, l)) : ∃ X', Rn (Ex pro (d + 3)) mX12_takeBit (35, [some (rV m), some (iV r), none, some (iV (3420 + 600 * r)), some (iV q), some (iV n)], [], sa w (m + 2) Z) (none, sa w (m + 2) X') ∧ MR X' r (n, b, if K = 1 then (if l q - 1 = 0 then 0 else 1) else if l q - 1 < low then halK (merL (updI l q (l q - 1)) (if K - 2 < q then K - 2 else q)) (K - 1) (if K - 2 < q then K - 2 else q) low else K, if K = 1 then updI l q (l q - 1) else if l q - 1 < low then halL (merL (updI l q (l q - 1)) (if K - 2 < q then K - 2 else q)) (K - 1) (if K - 2 < q then K - 2 else q) low else updI l q (l q - 1)) ∧ ∀ x, ¬ rowC r x → X' x = Z x := by
  have eZ : (fun x => if x = 3420 + 600 * r + n then 0 else Z x) = updI Z (3420 + 600 * r + n) 0 := rfl
  rw [eZ] at hM
  have hlq := hl q hq.1 hq.2
  obtain ⟨m1, m2, m3, m4, m5⟩ := hM
  simp only at m1 m2 m3 m4 m5
  have hZn : Z (2607 + r) = n := by
    have := m1
    unfold updI at this
    rw [if_neg (by omega)] at this
    exact this
  have g : MR (updI (updI Z (3420 + 600 * r + n) 0) (2816 + 151 * r + q) (l q - 1)) r (n, b, K, updI l q (l q - 1)) := by
    refine ⟨?_, ?_, fun x x1 x2 => ?_, fun x x1 x2 => ?_, fun x x1 x2 => ?_⟩
    · show updI _ (2816 + 151 * r + q) (l q - 1) (2607 + r) = n
      exact (updI_ne (by omega)).trans m1
    · show updI _ (2816 + 151 * r + q) (l q - 1) (2611 + r) = K
      exact (updI_ne (by omega)).trans m2
    · change x < n at x2
      show updI _ (2816 + 151 * r + q) (l q - 1) (3420 + 600 * r + x) = b x
      exact (updI_ne (by omega)).trans (m3 x x1 x2)
    · change x < K at x2
      show updI _ (2816 + 151 * r + q) (l q - 1) (2816 + 151 * r + x) = updI l q (l q - 1) x
      by_cases z : x = q
      · rw [z]
        unfold updI
        rw [if_pos rfl, if_pos rfl]
      · rw [show updI l q (l q - 1) x = l x from if_neg z]
        exact (updI_ne (by omega)).trans (m4 x x1 x2)
    · change K ≤ x at x1
      show updI _ (2816 + 151 * r + q) (l q - 1) (2816 + 151 * r + x) = 0
      exact (updI_ne (by omega)).trans (m5 x x1 x2)
  have q0 : updI Z (3420 + 600 * r + n) 0 (2816 + 151 * r + q) = l q := m4 q hq.1 hq.2
  have q1 : updI (updI Z (3420 + 600 * r + n) 0) (2816 + 151 * r + q) (l q - 1) 1 = low := by
    unfold updI
    rw [if_neg (by omega), if_neg (by omega)]; exact hZ1
  have q2 : updI (updI Z (3420 + 600 * r + n) 0) (2816 + 151 * r + q) (l q - 1) (2611 + r) = K := g.2.1
  have q3 : updI (updI Z (3420 + 600 * r + n) 0) (2816 + 151 * r + q) (l q - 1) (2816 + 151 * r + q) = l q - 1 := if_pos rfl
  have q4 : ∀ x, ¬ rowC r x → updI (updI Z (3420 + 600 * r + n) 0) (2816 + 151 * r + q) (l q - 1) x = Z x := fun x hx => by
    unfold rowC at hx
    unfold updI
    rw [if_neg (by omega), if_neg (by omega)]
  have ee := fun (x : sW) (t : Int) (ht : 0 ≤ t ∧ t ≤ 10000) => o_leafAt (d := d + 2) (w := x) (m := m) (r := r) (k := t) hr ht
  have e := o_sizeOf (d := d + 2) (h.sa Z) hr
  obtain ⟨a1, a2, a3, a4, a5⟩ := h.sa Z
  obtain ⟨b1, b2, b3, b4, b5⟩ := h.sa (updI Z (3420 + 600 * r + n) 0)
  obtain ⟨c1, c2, c3, c4, c5⟩ := h.sa (updI (updI Z (3420 + 600 * r + n) 0) (2816 + 151 * r + q) (l q - 1))
  have eq : sg (Ex pro (d + 3)) mX12_takeBit 2000 35 [some (rV m), some (iV r), none, some (iV (3420 + 600 * r)), some (iV q), some (iV n)] [] (sa w (m + 2) Z) =
      if K = 1 then (if l q - 1 = 0 then some (.inr (none, sa w (m + 2) (updI (updI (updI Z (3420 + 600 * r + n) 0) (2816 + 151 * r + q) (l q - 1)) (2611 + r) 0))) else some (.inr (none, sa w (m + 2) (updI (updI Z (3420 + 600 * r + n) 0) (2816 + 151 * r + q) (l q - 1)))))
      else if l q - 1 < low then bN (Ex pro (d + 3) 186 (sa w (m + 2) (updI (updI Z (3420 + 600 * r + n) 0) (2816 + 151 * r + q) (l q - 1))) [rV m, iV r, iV (if K - 2 < q then K - 2 else q)]) (fun w15 => some (.inr (none, w15)))
      else some (.inr (none, sa w (m + 2) (updI (updI Z (3420 + 600 * r + n) 0) (2816 + 151 * r + q) (l q - 1)))) := by
    rw [eX12_takeBit_35, if_pos a1, e]
    simp only [bI, wl_eq]
    rw [gvA, if_pos rfl, hZn, if_neg (by omega), if_pos a1, if_pos a1, e]
    simp only []
    rw [a2, gvA, if_pos rfl, hZn, w32_eq (x := 3420 + 600 * r + n) (by omega) (by omega), if_pos ⟨⟨a3, by omega⟩, by omega, by omega⟩, sa_sv, if_pos b1, if_pos b1, ee _ q (by omega)]
    simp only []
    rw [b2, if_pos ⟨b3, by omega, by omega⟩, if_pos ⟨⟨b3, by omega⟩, by omega, by omega⟩, gvA, if_pos rfl, q0, w32_eq (x := l q - 1) (by omega) (by omega), sa_sv, if_pos c1, c2, w32_eq (x := 2611 + r) (by omega) (by omega), if_pos ⟨c3, by omega, by omega⟩, gvA, if_pos rfl, q2, if_pos c1, if_pos c1, ee _ q (by omega)]
    have G1 : gv (sa w (m + 2) (updI (updI Z (3420 + 600 * r + n) 0) (2816 + 151 * r + q) (l q - 1))) (m + 2) (2816 + 151 * r + q) = l q - 1 := by rw [gvA, if_pos rfl, q3]
    have G2 : gv (sa w (m + 2) (updI (updI Z (3420 + 600 * r + n) 0) (2816 + 151 * r + q) (l q - 1))) (m + 2) 1 = low := by rw [gvA, if_pos rfl, q1]
    have G3 : gv (sa w (m + 2) (updI (updI Z (3420 + 600 * r + n) 0) (2816 + 151 * r + q) (l q - 1))) (m + 2) (2611 + r) = K := by rw [gvA, if_pos rfl, q2]
    simp only [c2, G1, G2, G3]
    rw [sa_sv, w32_eq (x := K - 1) (by omega) (by omega), w32_eq (x := q - 1) (by omega) (by omega)]
    by_cases c7 : q < K - 1
    · rw [show (if K - 2 < q then K - 2 else q) = q from if_neg (by omega)]
      grind
    · rw [show (if K - 2 < q then K - 2 else q) = q - 1 by rw [if_pos (by omega)]; omega]
      grind
  by_cases c : K = 1
  · rw [if_pos c] at eq
    rw [if_pos c, if_pos c]
    have hq0 : q = 0 := by omega
    by_cases c6 : l q - 1 = 0
    · rw [if_pos c6] at eq
      rw [if_pos c6]
      refine ⟨_, Rn.ret eq, ?_, fun x hx => ?_⟩
      · obtain ⟨g1, g2, g3, g4, g5⟩ := g
        simp only at g1 g2 g3 g4 g5
        refine ⟨?_, ?_, fun x x1 x2 => ?_, fun x x1 x2 => ?_, fun x x1 x2 => ?_⟩
        · exact (updI_ne (by omega)).trans g1
        · exact if_pos rfl
        · change x < n at x2
          exact (updI_ne (by omega)).trans (g3 x x1 x2)
        · change x < 0 at x2
          omega
        · change 0 ≤ x at x1
          show updI _ (2611 + r) 0 (2816 + 151 * r + x) = 0
          rw [show updI (updI (updI Z (3420 + 600 * r + n) 0) (2816 + 151 * r + q) (l q - 1)) (2611 + r) 0 (2816 + 151 * r + x) = updI (updI Z (3420 + 600 * r + n) 0) (2816 + 151 * r + q) (l q - 1) (2816 + 151 * r + x) from if_neg (by omega)]
          by_cases z : x = q
          · rw [z, q3]; exact c6
          · exact g5 x (by omega) x2
      · exact (updI_ne (by unfold rowC at hx; omega)).trans (q4 x hx)
    · rw [if_neg c6] at eq
      rw [if_neg c6]
      rw [c] at g
      exact ⟨_, Rn.ret eq, g, q4⟩
  · rw [if_neg c] at eq
    rw [if_neg c, if_neg c]
    by_cases c6 : l q - 1 < low
    · rw [if_pos c6] at eq
      rw [if_pos c6, if_pos c6]
      generalize hp : (if K - 2 < q then K - 2 else q) = p at eq ⊢
      have hp2 : 0 ≤ p ∧ p + 1 < K := by rw [← hp]; split <;> omega
      have hb : ∀ x, 0 ≤ x → x < K → 0 ≤ updI l q (l q - 1) x ∧ updI l q (l q - 1) x ≤ 1000 := fun x x1 x2 => by
        have := hl x x1 x2
        unfold updI
        split <;> omega
      obtain ⟨X', f1, f2, f3⟩ := o_joinLeaves (d := d) h hr g (by omega) q1 hlow hp2 hK (hb p hp2.1 (by omega)) (hb (p + 1) (by omega) hp2.2)
      rw [f1] at eq
      exact ⟨X', Rn.ret eq, f2, fun x hx => (f3 x hx).trans (q4 x hx)⟩
    · rw [if_neg c6] at eq
      rw [if_neg c6, if_neg c6]
      exact ⟨_, Rn.ret eq, g, q4⟩
end MO7
