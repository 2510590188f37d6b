/-- the cells of row r -/
def rowC (r x : Int) : Prop := x = 2607 + r ∨ x = 2611 + r ∨ (2816 + 151 * r ≤ x ∧ x < 2816 + 151 * r + 151) ∨ (3420 + 600 * r ≤ x ∧ x < 3420 + 600 * r + 600)
def MI (X : Int → Int) (r : Int) (R : Rw) (low : Int) : Prop := MR X r R ∧ LvOk R.1 R.2.2.1 R.2.2.2 low ∧ ∀ i, 0 ≤ i → i < R.1 → R.2.1 i = 0 ∨ R.2.1 i = 1
section MO3
variable {d : Nat} {w : sW} {m : Int}
theorem MR_spl {Y : Int → Int} {r n k j low : Int} {b l : Int → Int} (h : MR Y r (n, b, k, l)) (hr : 0 ≤ r ∧ r < 4) (hn : n ≤ 600) (hj : 0 ≤ j ∧ j < k) (hk : k ≤ 150) (hl : 0 ≤ l j) : MR (if 2 * low < l j then splX Y r j (l j) k else Y) r (n, b, halK l k j low, halL l k j low) := by
  unfold halK halL
  by_cases c : 2 * low < l j
  · have c2 : 2 * low < l j ∧ k < 152 := ⟨c, by omega⟩
    rw [if_pos c, if_pos c2, if_pos c2]
    have q : Int.tdiv (l j) 2 = l j / 2 := Int.tdiv_eq_ediv_of_nonneg hl
    obtain ⟨h1, h2, h3, h4, h5⟩ := h
    simp only at h1 h2 h3 h4 h5
    refine ⟨?_, ?_, fun x x1 x2 => ?_, fun x x1 x2 => ?_, fun x x1 x2 => ?_⟩
    · show splX Y r j (l j) k (2607 + r) = n
      unfold splX
      grind
    · show splX Y r j (l j) k (2611 + r) = k + 1
      unfold splX
      grind
    · change x < n at x2
      have := h3 x x1 x2
      show splX Y r j (l j) k (3420 + 600 * r + x) = b x
      unfold splX
      rw [if_neg (by omega), if_neg (by omega), if_neg (by omega), if_neg (by omega)]
      exact this
    · change x < k + 1 at x2
      show splX Y r j (l j) k (2816 + 151 * r + x) = if x < j then l x else if x = j then l j - Int.tdiv (l j) 2 else if x = j + 1 then Int.tdiv (l j) 2 else l (x - 1)
      rw [q]
      unfold splX
      by_cases z1 : x < j
      · rw [if_pos z1, if_neg (by omega), if_neg (by omega), if_neg (by omega), if_neg (by omega)]
        exact h4 x x1 (by omega)
      · by_cases z2 : x = j
        · rw [if_neg z1, if_pos z2, if_neg (by omega), if_neg (by omega), if_pos (by omega)]
          omega
        · by_cases z3 : x = j + 1
          · rw [if_neg z1, if_neg z2, if_pos z3, if_neg (by omega), if_pos (by omega)]
          · rw [if_neg z1, if_neg z2, if_neg z3, if_neg (by omega), if_neg (by omega), if_neg (by omega), if_pos (by omega), show 2816 + 151 * r + x - 1 = 2816 + 151 * r + (x - 1) by omega]
            exact h4 (x - 1) (by omega) (by omega)
    · change k + 1 ≤ x at x1
      show splX Y r j (l j) k (2816 + 151 * r + x) = 0
      unfold splX
      rw [if_neg (by omega), if_neg (by omega), if_neg (by omega), if_neg (by omega)]
      exact h5 x (by show k ≤ x; omega) x2
  · have c2 : ¬ (2 * low < l j ∧ k < 152) := fun z => c z.1
    rw [if_neg c, if_neg c2, if_neg c2]
    exact h
theorem splX_fr {Y : Int → Int} {r j v k x : Int} (hr : 0 ≤ r ∧ r < 4) (hj : 0 ≤ j ∧ j < k) (hk : k ≤ 150) (hx : ¬ rowC r x) : splX Y r j v k x = Y x := by
  unfold rowC at hx
  unfold splX
  rw [if_neg (by omega), if_neg (by omega), if_neg (by omega), if_neg (by omega)]
/-- bits i .. j of row r one up -/
def shU (Y : Int → Int) (r i j : Int) : Int → Int := fun x => if 3420 + 600 * r + i < x ∧ x ≤ 3420 + 600 * r + j then Y (x - 1) else Y x
theorem l_putShift {C : sC} (h : NwSh w m) {r i v : Int} (hr : 0 ≤ r ∧ r < 4) (hi : 0 ≤ i) {res : Option sV × sW} : ∀ (f : Nat) (j : Int) (Y : Int → Int), j = i + f → j ≤ 599 → Rn C mX12_putBit (18, [some (rV m), some (iV r), some (iV i), some (iV v), some (iV (3420 + 600 * r)), some (iV i)], [], sa w (m + 2) (shU Y r i j)) res → Rn C mX12_putBit (18, [some (rV m), some (iV r), some (iV i), some (iV v), some (iV (3420 + 600 * r)), some (iV j)], [], sa w (m + 2) Y) res
  | 0, j, Y, hj, hjM, g => by
    have e : j = i := by omega
    subst e
    rw [show sa w (m + 2) (shU Y r j j) = sa w (m + 2) Y from sa_eq fun x => by unfold shU; rw [if_neg (by omega)]] at g
    exact g
  | f + 1, j, Y, hj, hjM, g => by
    have ih := l_putShift (C := C) (v := v) h hr hi (res := res) f (j - 1) (updI Y (3420 + 600 * r + j) (Y (3420 + 600 * r + j - 1))) (by omega) (by omega) (by
      rw [show sa w (m + 2) (shU (updI Y (3420 + 600 * r + j) (Y (3420 + 600 * r + j - 1))) r i (j - 1)) = sa w (m + 2) (shU Y r i j) from sa_eq fun x => by unfold shU updI; grind]
      exact g)
    refine Rn.cut ?_ ih
    obtain ⟨a1, a2, a3, a4, a5⟩ := h.sa Y
    rw [eX12_putBit_18, if_pos (by omega), if_pos a1, if_pos a1, a2, w32_eq (x := 3420 + 600 * r + j) (by omega) (by omega), w32_eq (x := 3420 + 600 * r + j - 1) (by omega) (by omega), if_pos ⟨a3, by omega, by omega⟩, if_pos ⟨⟨a3, by omega⟩, by omega, by omega⟩, gvA, if_pos rfl, sa_sv, w32_eq (x := j + -1) (by omega) (by omega), show j + -1 = j - 1 by omega]
    rfl
theorem l_put102 (h : NwSh w m) {r j low n k : Int} {b l X : Int → Int} (hr : 0 ≤ r ∧ r < 4) (hX : X 1 = low) (hlow : 4 ≤ low ∧ low ≤ 32) (hM : MR X r (n, b, k, l)) (hn : 0 ≤ n ∧ n < 600) (hj : 0 ≤ j ∧ j < k) (hk : k ≤ 150) (hl : 0 ≤ l j ∧ l j ≤ 1000) (b' : Int → Int) (hb : ∀ i, 0 ≤ i → i < n + 1 → X (3420 + 600 * r + i) = b' i) : ∃ X', Rn (Ex pro (d + 2)) mX12_putBit (102, [some (rV m), some (iV r), none, none, none, none], [iV j], sa w (m + 2) X) (none, sa w (m + 2) X') ∧ MR X' r (n + 1, b', halK (updI l j (l j + 1)) k j low, halL (updI l j (l j + 1)) k j low) ∧ ∀ x, ¬ rowC r x → X' x = X x := by
  obtain ⟨m1, m2, m3, m4, m5⟩ := hM
  simp only at m1 m2 m3 m4 m5
  have g : MR (updI (updI X (2607 + r) (n + 1)) (2816 + 151 * r + j) (l j + 1)) r (n + 1, b', k, updI l j (l j + 1)) := by
    refine ⟨?_, ?_, fun x x1 x2 => ?_, fun x x1 x2 => ?_, fun x x1 x2 => ?_⟩
    · show updI (updI X (2607 + r) (n + 1)) (2816 + 151 * r + j) (l j + 1) (2607 + r) = n + 1
      unfold updI; grind
    · show updI (updI X (2607 + r) (n + 1)) (2816 + 151 * r + j) (l j + 1) (2611 + r) = k
      unfold updI; grind
    · have := hb x x1 x2
      change x < n + 1 at x2
      show updI (updI X (2607 + r) (n + 1)) (2816 + 151 * r + j) (l j + 1) (3420 + 600 * r + x) = b' x
      unfold updI
      rw [if_neg (by omega), if_neg (by omega)]; exact this
    · change x < k at x2
      have := m4 x x1 x2
      show updI (updI X (2607 + r) (n + 1)) (2816 + 151 * r + j) (l j + 1) (2816 + 151 * r + x) = updI l j (l j + 1) x
      unfold updI
      by_cases z : x = j
      · rw [if_pos (by omega), if_pos z]
      · rw [if_neg (by omega), if_neg (by omega), if_neg z]; exact this
    · change k ≤ x at x1
      have := m5 x x1 x2
      show updI (updI X (2607 + r) (n + 1)) (2816 + 151 * r + j) (l j + 1) (2816 + 151 * r + x) = 0
      unfold updI
      rw [if_neg (by omega), if_neg (by omega)]; exact this
  have huj : updI l j (l j + 1) j = l j + 1 := by unfold updI; simp
  have g2 := MR_spl (low := low) g hr (by omega) hj hk (by rw [huj]; omega)
  have e0 := fun (x : sW) => o_leafAt (d := d + 1) (w := x) (m := m) (r := r) (k := j) hr (by omega)
  obtain ⟨a1, a2, a3, a4, a5⟩ := h.sa X
  obtain ⟨b1, b2, b3, b4, b5⟩ := h.sa (updI X (2607 + r) (n + 1))
  obtain ⟨c1, c2, c3, c4, c5⟩ := h.sa (updI (updI X (2607 + r) (n + 1)) (2816 + 151 * r + j) (l j + 1))
  have q1 : updI X (2607 + r) (n + 1) (2816 + 151 * r + j) = l j := by
    have := m4 j hj.1 hj.2
    unfold updI
    rw [if_neg (by omega)]; exact this
  have q2 : updI (updI X (2607 + r) (n + 1)) (2816 + 151 * r + j) (l j + 1) (2816 + 151 * r + j) = l j + 1 := by unfold updI; simp
  have q3 : updI (updI X (2607 + r) (n + 1)) (2816 + 151 * r + j) (l j + 1) 1 = low := by
    unfold updI
    rw [if_neg (by omega), if_neg (by omega)]; exact hX
  have q4 : updI (updI X (2607 + r) (n + 1)) (2816 + 151 * r + j) (l j + 1) (2611 + r) = k := g.2.1
  refine ⟨_, Rn.ret ?_, g2, fun x hx => ?_⟩
  · have sp := o_splitLeaf (d := d) h (r := r) (k := j) (X := updI (updI X (2607 + r) (n + 1)) (2816 + 151 * r + j) (l j + 1)) hr (by omega) (by omega) (by omega)
    rw [q2, q4] at sp
    rw [huj, eX12_putBit_102, if_pos a1, a2, w32_eq (x := 2607 + r) (by omega) (by omega), if_pos ⟨a3, by omega, by omega⟩, if_pos ⟨⟨a3, by omega⟩, by omega, by omega⟩, gvA, if_pos rfl, m1, sa_sv, w32_eq (x := n + 1) (by omega) (by omega)]
    simp only [wl_eq]
    rw [if_pos b1, if_pos b1, e0]
    simp only [bI]
    rw [b2, if_pos ⟨b3, by omega, by omega⟩, if_pos ⟨⟨b3, by omega⟩, by omega, by omega⟩, gvA, if_pos rfl, q1, sa_sv, w32_eq (x := l j + 1) (by omega) (by omega), if_pos c1, if_pos c1, e0]
    simp only []
    rw [c2, if_pos ⟨c3, by omega, by omega⟩, if_pos c1, if_pos ⟨c3, by omega, by omega⟩, gvA, if_pos rfl, gvA, if_pos rfl, q2, q3, w32_eq (x := 2 * low) (by omega) (by omega)]
    by_cases c : 2 * low < l j + 1
    · rw [if_pos c, if_pos c, if_pos c1, sp]
      rfl
    · rw [if_neg c, if_neg c]
  · have y : updI (updI X (2607 + r) (n + 1)) (2816 + 151 * r + j) (l j + 1) x = X x := by
      unfold rowC at hx
      unfold updI
      rw [if_neg (by omega), if_neg (by omega)]
    by_cases c : 2 * low < updI l j (l j + 1) j
    · rw [if_pos c, splX_fr hr hj hk hx]; exact y
    · rw [if_neg c]; exact y
end MO3
