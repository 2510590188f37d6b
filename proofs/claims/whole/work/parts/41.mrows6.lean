section MO6
variable {d : Nat} {w : sW} {m : Int}
/-- bits j .. n of row r one down, and the last 0 -/
def shB (Y : Int → Int) (r j n : Int) : Int → Int := fun x => if x = 3420 + 600 * r + n then 0 else if 3420 + 600 * r + j ≤ x ∧ x < 3420 + 600 * r + n then Y (x + 1) else Y x
theorem l_takeShift (h : NwSh w m) {r q n : Int} (hr : 0 ≤ r ∧ r < 4) (hn : n ≤ 599) {res : Option sV × sW} : ∀ (f : Nat) (j : Int) (Y : Int → Int), j + f = n → 0 ≤ j → Y (2607 + r) = n → (∀ Z : Int → Int, (∀ x, (if x = 3420 + 600 * r + n then 0 else Z x) = shB Y r j n x) → Z (2607 + r) = n → Rn (Ex pro (d + 3)) mX12_takeBit (35, [some (rV m), some (iV r), none, some (iV (3420 + 600 * r)), some (iV q), some (iV n)], [], sa w (m + 2) Z) res) → Rn (Ex pro (d + 3)) mX12_takeBit (35, [some (rV m), some (iV r), none, some (iV (3420 + 600 * r)), some (iV q), some (iV j)], [], sa w (m + 2) Y) res
  | 0, j, Y, hj, hj0, hY, g => by
    have e : j = n := by omega
    subst e
    exact g Y (fun x => by unfold shB; grind) hY
  | f + 1, j, Y, hj, hj0, hY, g => by
    have ih := l_takeShift h hr (q := q) hn (res := res) f (j + 1) (updI Y (3420 + 600 * r + j) (Y (3420 + 600 * r + j + 1))) (by omega) (by omega) (by unfold updI; rw [if_neg (by omega)]; exact hY) (fun Z hZ hZ2 => g Z (fun x => by rw [hZ x]; unfold shB updI; grind) hZ2)
    refine Rn.cut ?_ ih
    have e := o_sizeOf (d := d + 2) (h.sa Y) hr
    obtain ⟨a1, a2, a3, a4, a5⟩ := h.sa Y
    rw [eX12_takeBit_35, if_pos a1, e]
    simp only [bI, wl_eq]
    rw [gvA, if_pos rfl, hY, if_pos (by omega), if_pos a1, if_pos a1, a2, w32_eq (x := 3420 + 600 * r + j) (by omega) (by omega), w32_eq (x := 3420 + 600 * r + j + 1) (by omega) (by omega), if_pos ⟨a3, by omega, by omega⟩, if_pos ⟨⟨a3, by omega⟩, by omega, by omega⟩, gvA, if_pos rfl, sa_sv, w32_eq (x := j + 1) (by omega) (by omega)]
end MO6
