/-! ===== a room put in place: the reference ===== -/
section MS
variable {d : Nat} {w : sW} {m : Int}
theorem l_st4 (h : NwSh w m) : ∀ (f : Nat) (a : Int) (X : Int → Int), a + f = 6062 → 2607 ≤ a → ∃ X', (∀ res, Rn (Ex pro d) mX12_startSo (26, [some (rV m), some (iV 0), none], [], sa w (m + 2) X') res → Rn (Ex pro d) mX12_startSo (4, [some (rV m), some (iV a), none], [], sa w (m + 2) X) res) ∧ (∀ x, a ≤ x → x < 6062 → X' x = 0) ∧ ∀ x, x < a → X' x = X x
  | 0, a, X, ha, ha0 => by
    refine ⟨X, fun res g => Rn.cut ?_ g, fun x x0 x1 => by omega, fun x _ => rfl⟩
    rw [eX12_startSo_4, if_neg (by omega)]
  | f + 1, a, X, ha, ha0 => by
    obtain ⟨X', g1, g2, g3⟩ := l_st4 h f (a + 1) (updI X a 0) (by omega) (by omega)
    refine ⟨X', fun res g => Rn.cut ?_ (g1 res g), fun x x0 x1 => ?_, fun x x0 => ?_⟩
    · have hs := h.sa X
      rw [eX12_startSo_4, if_pos (by omega), if_pos hs.1, hs.2.1, if_pos ⟨⟨hs.2.2.1, by have := h.2.2.2.2; omega⟩, by omega, by rw [hs.2.2.2.1]; omega⟩, wl_eq, sa_sv, w32_eq (by omega) (by omega)]
    · by_cases z : x = a
      · rw [g3 x (by omega)]
        unfold updI
        rw [if_pos z]
      · exact g2 x (by omega) x1
    · rw [g3 x (by omega)]
      unfold updI
      rw [if_neg (by omega)]
theorem l_st101 (h : NwSh w m) : ∀ (f : Nat) (a : Int) (X : Int → Int), a + f = 200 → 0 ≤ a → ∃ X', Rn (Ex pro d) mX12_startSo (101, [some (rV m), some (iV a), none], [], sa w (m + 2) X) (none, sa w (m + 2) X') ∧ (∀ x, a ≤ x → x < 200 → X' (2616 + x) = X (7 + x)) ∧ ∀ x, x < 2616 + a ∨ 2816 ≤ x → X' x = X x
  | 0, a, X, ha, ha0 => by
    refine ⟨X, Rn.ret ?_, fun x x0 x1 => by omega, fun x _ => rfl⟩
    rw [eX12_startSo_101, if_neg (by omega)]
  | f + 1, a, X, ha, ha0 => by
    obtain ⟨X', g1, g2, g3⟩ := l_st101 h f (a + 1) (updI X (2616 + a) (X (7 + a))) (by omega) (by omega)
    refine ⟨X', Rn.cut ?_ g1, fun x x0 x1 => ?_, fun x x0 => ?_⟩
    · have hs := h.sa X
      rw [eX12_startSo_101, if_pos (by omega), if_pos hs.1, if_pos hs.1, hs.2.1, w32_eq (x := 7 + a) (by omega) (by omega), w32_eq (x := 2616 + a) (by omega) (by omega), if_pos ⟨hs.2.2.1, by omega, by rw [hs.2.2.2.1]; omega⟩, if_pos ⟨⟨hs.2.2.1, by have := h.2.2.2.2; omega⟩, by omega, by rw [hs.2.2.2.1]; omega⟩, gvA, if_pos rfl, wl_eq, sa_sv, w32_eq (by omega) (by omega)]
    · by_cases z : x = a
      · rw [g3 _ (by omega)]
        unfold updI
        rw [if_pos (by omega), z]
      · rw [g2 x (by omega) x1]
        unfold updI
        rw [if_neg (by omega)]
    · rw [g3 x (by omega)]
      unfold updI
      rw [if_neg (by omega)]
end MS
