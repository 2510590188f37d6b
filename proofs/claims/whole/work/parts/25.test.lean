theorem w32_eq {x : Int} (h1 : -2147483648 ≤ x) (h2 : x < 2147483648) : w32 x = x := by unfold w32; omega
theorem t_hasGap {d : Nat} {w : sW} {a i : Int} (hk : kd w a = 5) : Ex pro (d + 1) 32 w [rV a, iV i] = some (some (iV (if 0 ≤ i ∧ i ≤ gv w a 2 then 1 else 0)), w) := by
  refine xX5_hasGap (Rn.ret ?_)
  rw [eX5_hasGap_0]
  grind
theorem t_hasRange {d : Nat} {w : sW} {a i n : Int} (hk : kd w a = 5) (h0 : 0 ≤ gv w a 2) (h1 : gv w a 2 ≤ 600) (hn : in32 n) : Ex pro (d + 1) 33 w [rV a, iV i, iV n] = some (some (iV (if 0 ≤ i ∧ 0 ≤ n ∧ i + n ≤ gv w a 2 then 1 else 0)), w) := by
  refine xX5_hasRange (Rn.ret ?_)
  rw [eX5_hasRange_0]
  unfold in32 at hn
  grind [w32_eq]
