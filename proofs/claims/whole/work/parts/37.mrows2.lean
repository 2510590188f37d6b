section MO2
variable {d : Nat} {w : sW} {m : Int}
/-- leaf k of row r split; j the number of leaves; v its size -/
def splX (Y : Int → Int) (r k v j : Int) : Int → Int := fun x => if x = 2611 + r then Y (2611 + r) + 1 else if x = 2816 + 151 * r + (k + 1) then v / 2 else if x = 2816 + 151 * r + k then (v + 1) / 2 else if 2816 + 151 * r + (k + 1) < x ∧ x ≤ 2816 + 151 * r + j then Y (x - 1) else Y x
theorem l_splitLeaf (h : NwSh w m) {r k v : Int} (hr : 0 ≤ r ∧ r < 4) (hk : 0 ≤ k) (hv : 0 ≤ v ∧ v ≤ 2000) : ∀ (f : Nat) (j : Int) (Y : Int → Int), j = k + 1 + f → j ≤ 150 → (0 ≤ Y (2611 + r) ∧ Y (2611 + r) ≤ 1000) → Rn (Ex pro (d + 1)) mX12_splitLeaf (24, [some (rV m), some (iV r), some (iV k), some (iV v), some (iV j)], [], sa w (m + 2) Y) (none, sa w (m + 2) (splX Y r k v j))
  | 0, j, Y, hj, hjM, hY => by
    have ee := fun (x : sW) (t : Int) (ht : 0 ≤ t ∧ t ≤ 10000) => o_leafAt (d := d) (w := x) (m := m) (r := r) (k := t) hr ht
    obtain ⟨a1, a2, a3, a4, a5⟩ := h.sa Y
    obtain ⟨b1, b2, b3, b4, b5⟩ := h.sa (updI Y (2816 + 151 * r + k) ((v + 1) / 2))
    obtain ⟨c1, c2, c3, c4, c5⟩ := h.sa (updI (updI Y (2816 + 151 * r + k) ((v + 1) / 2)) (2816 + 151 * r + (k + 1)) (v / 2))
    refine Rn.ret ?_
    have q1 : gv (sa w (m + 2) (updI (updI Y (2816 + 151 * r + k) ((v + 1) / 2)) (2816 + 151 * r + (k + 1)) (v / 2))) (m + 2) (2611 + r) = Y (2611 + r) := by
      rw [gvA, if_pos rfl]
      unfold updI
      rw [if_neg (by omega), if_neg (by omega)]
    rw [eX12_splitLeaf_24, if_neg (by rw [w32_eq (by omega) (by omega)]; omega), if_pos a1, if_pos a1, ee _ k (by omega)]
    simp only [bI, wl_eq]
    rw [a2, sa_sv, w32_eq (x := v + 1) (by omega) (by omega), Int.tdiv_eq_ediv_of_nonneg (by omega), w32_eq (x := (v + 1) / 2) (by omega) (by omega), if_neg (by omega), if_pos ⟨⟨a3, by omega⟩, by omega, by omega⟩, if_pos b1, if_pos b1, w32_eq (x := k + 1) (by omega) (by omega), ee _ (k + 1) (by omega)]
    simp only []
    rw [b2, sa_sv, Int.tdiv_eq_ediv_of_nonneg (by omega), w32_eq (x := v / 2) (by omega) (by omega), if_neg (by omega), if_pos ⟨⟨b3, by omega⟩, by omega, by omega⟩, if_pos c1, c2, w32_eq (x := 2611 + r) (by omega) (by omega), if_pos ⟨c3, by omega, by omega⟩, if_pos ⟨⟨c3, by omega⟩, by omega, by omega⟩, q1, sa_sv, w32_eq (x := Y (2611 + r) + 1) (by omega) (by omega)]
    refine congrArg (fun z => some (Sum.inr (none, z))) (sa_eq fun x => ?_)
    unfold splX updI
    grind
  | f + 1, j, Y, hj, hjM, hY => by
    have ee := fun (x : sW) (t : Int) (ht : 0 ≤ t ∧ t ≤ 10000) => o_leafAt (d := d) (w := x) (m := m) (r := r) (k := t) hr ht
    have ih := l_splitLeaf h hr hk hv f (j - 1) (updI Y (2816 + 151 * r + j) (Y (2816 + 151 * r + (j - 1)))) (by omega) (by omega) (by unfold updI; rw [if_neg (by omega)]; exact hY)
    rw [show sa w (m + 2) (splX (updI Y (2816 + 151 * r + j) (Y (2816 + 151 * r + (j - 1)))) r k v (j - 1)) = sa w (m + 2) (splX Y r k v j) from sa_eq fun x => by
      unfold splX updI
      grind] at ih
    obtain ⟨a1, a2, a3, a4, a5⟩ := h.sa Y
    refine Rn.cut ?_ ih
    rw [eX12_splitLeaf_24, if_pos (by rw [w32_eq (by omega) (by omega)]; omega), if_pos a1, if_pos a1, ee _ j (by omega)]
    simp only [bI, wl_eq]
    rw [if_pos a1, if_pos a1, w32_eq (x := j - 1) (by omega) (by omega), ee _ (j - 1) (by omega)]
    simp only []
    rw [a2, sa_sv, gvA, if_pos rfl, if_pos ⟨a3, by omega, by omega⟩, if_pos ⟨⟨a3, by omega⟩, by omega, by omega⟩, w32_eq (x := j + -1) (by omega) (by omega), show j + -1 = j - 1 by omega]
theorem o_splitLeaf (h : NwSh w m) {r k : Int} {X : Int → Int} (hr : 0 ≤ r ∧ r < 4) (hk : 0 ≤ k ∧ k < X (2611 + r)) (hM : X (2611 + r) ≤ 150) (hv : 0 ≤ X (2816 + 151 * r + k) ∧ X (2816 + 151 * r + k) ≤ 2000) : Ex pro (d + 2) 184 (sa w (m + 2) X) [rV m, iV r, iV k] = some (none, sa w (m + 2) (splX X r k (X (2816 + 151 * r + k)) (X (2611 + r)))) := by
  have e := l_splitLeaf (d := d) h hr hk.1 hv (X (2611 + r) - k - 1).toNat (X (2611 + r)) X (by omega) hM (by omega)
  refine xX12_splitLeaf (Rn.cut ?_ e)
  obtain ⟨a1, a2, a3, a4, a5⟩ := h.sa X
  rw [eX12_splitLeaf_0, if_pos a1, if_pos a1, o_leafAt (d := d) hr (by omega)]
  simp only [bI]
  rw [a2, w32_eq (x := 2611 + r) (by omega) (by omega), gvA, if_pos rfl, gvA, if_pos rfl, if_pos ⟨a3, by omega, by omega⟩, if_pos a1, if_pos ⟨a3, by omega, by omega⟩]
end MO2
