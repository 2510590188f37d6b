section MA
variable {d : Nat} {w : sW} {m : Int}
theorem o_isIn (a b c : Int) : Ex pro (d + 1) 155 w [iV a, iV b, iV c] = some (some (iV (if b ≤ a ∧ a ≤ c then 1 else 0)), w) := by
  refine xX12_isIn (Rn.ret ?_)
  rw [eX12_isIn_0]
  grind
theorem o_isRow (h : NwSh w m) {k : Int} (hk : gv w (m + 2) 0 = k) (hk' : 0 ≤ k ∧ k ≤ 4) (r : Int) : Ex pro (d + 2) 188 w [rV m, iV r] = some (some (iV (if 0 ≤ r ∧ r < k then 1 else 0)), w) := by
  obtain ⟨h1, h2, h3, h4, h5⟩ := h
  refine xX12_isRow (Rn.ret ?_)
  rw [eX12_isRow_0, if_pos h1, h2, hk, if_pos ⟨h3, by omega, by omega⟩, w32_eq (x := k - 1) (by omega) (by omega), o_isIn]
  simp only [bI]
  grind
theorem o_isBit (b : Int) : Ex pro (d + 2) 189 w [rV m, iV b] = some (some (iV (if 0 ≤ b ∧ b ≤ 1 then 1 else 0)), w) := by
  refine xX12_isBit (Rn.ret ?_)
  rw [eX12_isBit_0, o_isIn]
  simp only [bI]
  grind
theorem o_isThere (h : NwSh w m) {r n : Int} (hr : 0 ≤ r ∧ r < 4) (hn : gv w (m + 2) (2607 + r) = n) (hn' : 0 ≤ n ∧ n ≤ 600) (i : Int) : Ex pro (d + 2) 190 w [rV m, iV r, iV i] = some (some (iV (if 0 ≤ i ∧ i < n then 1 else 0)), w) := by
  have e := o_sizeOf (d := d) h hr
  rw [hn] at e
  refine xX12_isThere (Rn.ret ?_)
  rw [eX12_isThere_0, if_pos h.1, e]
  simp only [bI]
  rw [w32_eq (x := n - 1) (by omega) (by omega), o_isIn]
  simp only []
  grind
theorem l_onesIn (h : NwSh w m) {r t : Int} {b : Int → Int} (hr : 0 ≤ r ∧ r < 4) (ht : t ≤ 600) (hb : ∀ i, 0 ≤ i → i < t → gv w (m + 2) (3420 + 600 * r + i) = b i ∧ (b i = 0 ∨ b i = 1)) : ∀ (f : Nat) (y p : Int), (p + f = t ∨ (f = 0 ∧ t ≤ p)) → 0 ≤ p → 0 ≤ y → y ≤ p → Rn (Ex pro (d + 1)) mX12_onesIn (6, [some (rV m), some (iV r), none, some (iV t), some (iV y), some (iV p)], [], w) (some (iV (y + cnt b 1 p f)), w)
  | 0, y, p, hp, hp0, hy, hyp => by
    refine Rn.ret ?_
    rw [eX12_onesIn_6, if_neg (by omega)]
    simp [cnt]
  | f + 1, y, p, hp, hp0, hy, hyp => by
    have g := hb p hp0 (by omega)
    have ih := l_onesIn h hr ht hb f (y + b p) (p + 1) (by omega) (by omega) (by omega) (by omega)
    rw [show y + b p + cnt b 1 (p + 1) f = y + cnt b 1 p (f + 1) by simp only [cnt]; grind] at ih
    have e := o_bitOf (d := d) h (r := r) (i := p) hr (by omega)
    rw [g.1] at e
    refine Rn.cut ?_ ih
    rw [eX12_onesIn_6, if_pos (by omega), if_pos h.1, e]
    simp only [bI]
    rw [w32_eq (x := y + b p) (by omega) (by omega), w32_eq (x := p + 1) (by omega) (by omega)]
theorem o_onesIn (h : NwSh w m) {r s t : Int} {b : Int → Int} (hr : 0 ≤ r ∧ r < 4) (hs : 0 ≤ s) (ht : t ≤ 600) (hb : ∀ i, 0 ≤ i → i < t → gv w (m + 2) (3420 + 600 * r + i) = b i ∧ (b i = 0 ∨ b i = 1)) : Ex pro (d + 2) 191 w [rV m, iV r, iV s, iV t] = some (some (iV (cnt b 1 s (t - s).toNat)), w) := by
  have := l_onesIn (d := d) h hr ht hb (t - s).toNat 0 s (by omega) hs (by omega) hs
  rw [Int.zero_add] at this
  refine xX12_onesIn (Rn.cut ?_ this)
  rw [eX12_onesIn_0]
end MA
