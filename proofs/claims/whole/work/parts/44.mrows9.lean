section MO9
variable {d : Nat} {w : sW} {m : Int}
theorem remR_succ {R : Rw} {i c low : Int} (hc : 0 ≤ c) (hn : c + 1 ≤ R.1) : remR (remR R i 1 low) i c low = remR R i (c + 1) low := by
  obtain ⟨n, b, k, l⟩ := R
  change c + 1 ≤ n at hn
  have eB : remB (remB b i 1) i c = remB b i (c + 1) := funext fun x => by
    unfold remB
    by_cases z : x < i
    · rw [if_pos z, if_pos z, if_pos z]
    · rw [if_neg z, if_neg z, if_neg (by omega), show x + c + 1 = x + (c + 1) by omega]
  have eS : (c + 1).toNat = c.toNat + 1 := by omega
  unfold remR
  simp only []
  rw [eB, eS, show n - 1 - c = n - (c + 1) by omega]
  have e1 : (1 : Int).toNat = 0 + 1 := rfl
  rw [e1]
  simp only [remI]
  by_cases z : n - 1 = 0
  · have c0 : c = 0 := by omega
    subst c0
    simp [remI]
    omega
  · rw [if_neg z]
theorem remR_0 {R : Rw} {i low : Int} (h : LvOk R.1 R.2.2.1 R.2.2.2 low) : remR R i 0 low = R := by
  obtain ⟨n, b, k, l⟩ := R
  obtain ⟨h1, h2, h3, h4, h5⟩ := h
  change psm l 0 k.toNat = n at h4
  change 0 ≤ k at h3
  have eB : remB b i 0 = b := funext fun x => by
    unfold remB
    rw [show x + 0 = x by omega]
    split <;> rfl
  unfold remR
  simp only [Int.toNat_zero, remI, Int.sub_zero]
  rw [eB]
  by_cases z : n = 0
  · have hk : k = 0 := by
      rcases Int.lt_or_le 0 k with y | y
      · have := psm_ge (l := l) (c := 1) k.toNat 0 (fun x x1 x2 => (h5 x x1 (by show x < k; omega)).1.1)
        omega
      · omega
    rw [if_pos z, hk]
  · rw [if_neg z]
end MO9
