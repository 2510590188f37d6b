section MO8
variable {d : Nat} {w : sW} {m : Int}
def shC (Y : Int → Int) (r j n : Int) : Int → Int := fun x => if 3420 + 600 * r + j ≤ x ∧ x < 3420 + 600 * r + n then Y (x + 1) else Y x
theorem l_takeShift2 (h : NwSh w m) {r q n : Int} (hr : 0 ≤ r ∧ r < 4) (hn : n ≤ 599) {res : Option sV × sW} : ∀ (f : Nat) (j : Int) (Y : Int → Int), j + f = n → 0 ≤ j → Y (2607 + r) = n → Rn (Ex pro (d + 3)) mX12_takeBit (35, [some (rV m), some (iV r), none, some (iV (3420 + 600 * r)), some (iV q), some (iV n)], [], sa w (m + 2) (shC Y r j n)) res → Rn (Ex pro (d + 3)) mX12_takeBit (35, [some (rV m), some (iV r), none, some (iV (3420 + 600 * r)), some (iV q), some (iV j)], [], sa w (m + 2) Y) res
  | 0, j, Y, hj, hj0, hY, g => by
    have e : j = n := by omega
    subst e
    rw [show sa w (m + 2) (shC Y r j j) = sa w (m + 2) Y from sa_eq fun x => by unfold shC; rw [if_neg (by omega)]] at g
    exact g
  | f + 1, j, Y, hj, hj0, hY, g => by
    have ih := l_takeShift2 h hr (q := q) hn (res := res) f (j + 1) (updI Y (3420 + 600 * r + j) (Y (3420 + 600 * r + j + 1))) (by omega) (by omega) (by unfold updI; rw [if_neg (by omega)]; exact hY) (by
      rw [show sa w (m + 2) (shC (updI Y (3420 + 600 * r + j) (Y (3420 + 600 * r + j + 1))) r (j + 1) n) = sa w (m + 2) (shC Y r j n) from sa_eq fun x => by unfold shC updI; grind]
      exact g)
    refine Rn.cut ?_ ih
    have e := o_sizeOf (d := d + 2) (h.sa Y) hr
    obtain ⟨a1, a2, a3, a4, a5⟩ := h.sa Y
    rw [eX12_takeBit_35, if_pos a1, e]
    simp only [bI, wl_eq]
    rw [gvA, if_pos rfl, hY, if_pos (by omega), if_pos a1, if_pos a1, a2, w32_eq (x := 3420 + 600 * r + j) (by omega) (by omega), w32_eq (x := 3420 + 600 * r + j + 1) (by omega) (by omega), if_pos ⟨a3, by omega, by omega⟩, if_pos ⟨⟨a3, by omega⟩, by omega, by omega⟩, gvA, if_pos rfl, sa_sv, w32_eq (x := j + 1) (by omega) (by omega)]
theorem o_takeBit (h : NwSh w m) {r i low : Int} {R : Rw} {X : Int → Int} (hr : 0 ≤ r ∧ r < 4) (hX : X 1 = low) (hM : MI X r R low) (hi : 0 ≤ i ∧ i < R.1) : ∃ X', Ex pro (d + 4) 187 (sa w (m + 2) X) [rV m, iV r, iV i] = some (none, sa w (m + 2) X') ∧ MI X' r (remR R i 1 low) low ∧ ∀ x, ¬ rowC r x → X' x = X x := by
  obtain ⟨n, b, k, l⟩ := R
  obtain ⟨⟨m1, m2, m3, m4, m5⟩, hL, hB⟩ := hM
  simp only at m1 m2 m3 m4 m5 hL hB hi
  have hk := hL.k
  have hmd := hL.md (by omega)
  have hrem := hmd.rem (by omega) i
  obtain ⟨h1, h2, h3, h4, h5⟩ := hL
  have hk1 : 1 ≤ k := hmd.2.2.1
  have hq := leafW_rg (l := l) (n := n) (k := k) hk1 i
  have eq := leafW_eq (l := l) (n := n) (k := k) (p := i) hk1 (fun x x1 x2 => by have := h5 x x1 x2; omega) h4
  have y1 : ∀ x, x ≠ 2607 + r → x < 3420 → shC (updI X (2607 + r) (n - 1)) r i (n - 1) x = X x := fun x x1 x2 => by
    unfold shC updI
    rw [if_neg (by omega), if_neg x1]
  have y2 : shC (updI X (2607 + r) (n - 1)) r i (n - 1) (2607 + r) = n - 1 := by
    unfold shC updI
    rw [if_neg (by omega), if_pos rfl]
  have g : MR (fun x => if x = 3420 + 600 * r + (n - 1) then 0 else shC (updI X (2607 + r) (n - 1)) r i (n - 1) x) r (n - 1, remB b i 1, k, l) := by
    refine ⟨?_, ?_, fun x x1 x2 => ?_, fun x x1 x2 => ?_, fun x x1 x2 => ?_⟩
    · exact (if_neg (by omega)).trans y2
    · exact (if_neg (by omega)).trans ((y1 _ (by omega) (by omega)).trans m2)
    · change x < n - 1 at x2
      refine (if_neg (by omega)).trans ?_
      show _ = remB b i 1 x
      unfold shC remB updI
      by_cases z : x < i
      · rw [if_neg (by omega), if_neg (by omega), if_pos z]; exact m3 x x1 (by omega)
      · rw [if_pos (by omega), if_neg (by omega), if_neg z, show 3420 + 600 * r + x + 1 = 3420 + 600 * r + (x + 1) by omega]; exact m3 (x + 1) (by omega) (by omega)
    · change x < k at x2
      exact (if_neg (by omega)).trans ((y1 _ (by omega) (by omega)).trans (m4 x x1 x2))
    · change k ≤ x at x1
      exact (if_neg (by omega)).trans ((y1 _ (by omega) (by omega)).trans (m5 x x1 x2))
  obtain ⟨X', f1, f2, f3⟩ := l_takeEnd (d := d) h (q := leafW l n k i) hr (by omega) (by rw [y1 1 (by omega) (by omega)]; exact hX) h1 hq hk (fun x x1 x2 => by have := h5 x x1 x2; omega) g
  refine ⟨X', xX12_takeBit (Rn.cut ?_ (l_takeShift2 h hr (by omega) (n - 1 - i).toNat i (updI X (2607 + r) (n - 1)) (by omega) hi.1 (if_pos rfl) f1)), ⟨?_, ?_, fun x x1 x2 => ?_⟩, fun x hx => ?_⟩
  · have e := o_leafOf (d := d + 1) (h.sa X) (p := i) hr (k := k) (l := l) (by omega) (fun x x1 x2 => by
      rw [gvA, if_pos rfl, m4 x x1 x2]
      have := h5 x x1 x2
      exact ⟨rfl, by omega, by omega⟩) (by omega)
    obtain ⟨a1, a2, a3, a4, a5⟩ := h.sa X
    rw [eX12_takeBit_0, if_pos a1, e, ← eq]
    simp only [bI, wl_eq]
    rw [if_pos a1, a2, w32_eq (x := 2607 + r) (by omega) (by omega), if_pos ⟨a3, by omega, by omega⟩, if_pos ⟨⟨a3, by omega⟩, by omega, by omega⟩, gvA, if_pos rfl, m1, sa_sv, w32_eq (x := n - 1) (by omega) (by omega), w32_eq (x := 600 * r) (by omega) (by omega), w32_eq (x := 3420 + 600 * r) (by omega) (by omega)]
  · show MR X' r (n - 1, remB b i 1, if n - 1 = 0 then 0 else remK l n k i low, remL l n k i low)
    by_cases c : k = 1
    · have hl0 : l (leafW l n k i) = n := by
        have e0 : leafW l n k i = 0 := by omega
        rw [e0, ← h4, c]
        simp [psm]
      rw [if_pos c, if_pos c, hl0] at f2
      have e1 : remK l n k i low = 1 := by unfold remK; rw [if_neg (by omega)]; exact c
      have e2 : remL l n k i low = updI l (leafW l n k i) (n - 1) := by unfold remL; rw [if_neg (by omega)]; unfold remL1; rw [hl0]
      rw [e1, e2]
      exact f2
    · have hn1 : ¬ (n - 1 = 0) := by
        have := psm_ge (l := l) (c := 4) k.toNat 0 (fun x x1 x2 => by have := h5 x x1 (by omega); omega)
        omega
      rw [if_neg c, if_neg c] at f2
      rw [if_neg hn1]
      unfold remK remL
      by_cases c6 : l (leafW l n k i) - 1 < low
      · rw [if_pos c6, if_pos c6] at f2
        rw [if_pos ⟨c6, by omega⟩, if_pos ⟨c6, by omega⟩]
        exact f2
      · rw [if_neg c6, if_neg c6] at f2
        rw [if_neg (fun z => c6 z.1), if_neg (fun z => c6 z.1)]
        exact f2
  · show LvOk (n - 1) (if n - 1 = 0 then 0 else remK l n k i low) (remL l n k i low) low
    by_cases c : n - 1 = 0
    · rw [if_pos c, c]
      exact LvOk.zero h1
    · rw [if_neg c]
      exact hrem.ok (by omega)
  · change x < n - 1 at x2
    show remB b i 1 x = 0 ∨ remB b i 1 x = 1
    unfold remB
    split
    · exact hB x x1 (by omega)
    · exact hB (x + 1) (by omega) (by omega)
  · rw [f3 x hx]
    unfold rowC at hx
    unfold shC updI
    rw [if_neg (by omega), if_neg (by omega)]
end MO8
