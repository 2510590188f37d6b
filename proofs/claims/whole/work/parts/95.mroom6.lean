/-! ===== the reference's room ===== -/
section MQ
variable {d : Nat} {w : sW} {m : Int} {t : Int → Int} {n : Int}
theorem ne_sa {X : Int → Int} (w : sW) (a : Int) {r j : Int} (h : r ≠ a) : gv (sa w a X) r j = gv w r j := by rw [gvA, if_neg h]
theorem l_rm9 (h : MSh w m) : ∀ (f : Nat) (a : Int) (X : Int → Int), a + f = 2607 → 0 ≤ a → ∃ X', (∀ res, Rn (Ex pro d) mX12_room (44, [some (rV m), some (iV 0), none], [], sv (sv (sa w (m + 3) X') (m + 3) 1 8) m 25 0) res → Rn (Ex pro d) mX12_room (9, [some (rV m), some (iV a), none], [], sa w (m + 3) X) res) ∧ (∀ x, a ≤ x → x < 2607 → X' x = 0) ∧ ∀ x, x < a → X' x = X x
  | 0, a, X, ha, ha0 => by
    have a15 := h.2.2.2.1
    have k : kd (sa w (m + 3) X) m = 10 := h.1.1
    have g15 : gv (sa w (m + 3) X) m 15 = m + 3 := by rw [ne_sa w (m + 3) (by omega)]; exact a15.1
    refine ⟨X, fun res g => Rn.cut ?_ g, fun x x0 x1 => by omega, fun x _ => rfl⟩
    rw [eX12_room_9, if_neg (by omega), if_pos k, g15, if_pos ⟨⟨a15.2.1, by have := h.1.2; omega⟩, by omega, by rw [lnA, a15.2.2]; omega⟩, wl_eq, if_pos ⟨show kd (sv (sa w (m + 3) X) (m + 3) 1 8) m = 10 from k, Or.inl rfl⟩, wl_eq]
  | f + 1, a, X, ha, ha0 => by
    have a15 := h.2.2.2.1
    have k : kd (sa w (m + 3) X) m = 10 := h.1.1
    have g15 : gv (sa w (m + 3) X) m 15 = m + 3 := by rw [ne_sa w (m + 3) (by omega)]; exact a15.1
    obtain ⟨X', g1, g2, g3⟩ := l_rm9 h f (a + 1) (updI X a 0) (by omega) (by omega)
    refine ⟨X', fun res g => Rn.cut ?_ (g1 res g), fun x x0 x1 => ?_, fun x x0 => ?_⟩
    · rw [eX12_room_9, if_pos (by omega), if_pos k, g15, if_pos ⟨⟨a15.2.1, by have := h.1.2; omega⟩, by omega, by rw [lnA, a15.2.2]; omega⟩, wl_eq, sa_sv, w32_eq (by omega) (by omega)]
    · by_cases z : x = a
      · rw [g3 x (by omega)]
        unfold updI
        rw [if_pos z]
      · exact g2 x (by omega) x1
    · rw [g3 x (by omega)]
      unfold updI
      rw [if_neg (by omega)]
theorem l_rm81 (h : MSh w m) {many : Int} : ∀ (f : Nat) (a : Int) (X : Int → Int), a + f = 2607 → 0 ≤ a → ∃ X', (∀ res, Rn (Ex pro d) mX12_room (108, [some (rV m), some (iV many), some (iV 0)], [], sa w (m + 2) X') res → Rn (Ex pro d) mX12_room (81, [some (rV m), some (iV many), some (iV a)], [], sa w (m + 2) X) res) ∧ (∀ x, a ≤ x → x < 2607 → X' x = gv w (m + 3) x) ∧ ∀ x, x < a → X' x = X x
  | 0, a, X, ha, ha0 => by
    refine ⟨X, fun res g => Rn.cut ?_ g, fun x x0 x1 => by omega, fun x _ => rfl⟩
    rw [eX12_room_81, if_neg (by omega)]
  | f + 1, a, X, ha, ha0 => by
    have a15 := h.2.2.2.1
    have a14 := h.2.2.1
    have k : kd (sa w (m + 2) X) m = 10 := h.1.1
    have g15 : gv (sa w (m + 2) X) m 15 = m + 3 := by rw [ne_sa w (m + 2) (by omega)]; exact a15.1
    have g14 : gv (sa w (m + 2) X) m 14 = m + 2 := by rw [ne_sa w (m + 2) (by omega)]; exact a14.1
    obtain ⟨X', g1, g2, g3⟩ := l_rm81 h f (a + 1) (updI X a (gv w (m + 3) a)) (by omega) (by omega)
    refine ⟨X', fun res g => Rn.cut ?_ (g1 res g), fun x x0 x1 => ?_, fun x x0 => ?_⟩
    · rw [eX12_room_81, if_pos (by omega), if_pos k, if_pos k, g15, if_pos ⟨a15.2.1, by omega, by rw [lnA, a15.2.2]; omega⟩, g14, if_pos ⟨⟨a14.2.1, by have := h.1.2; omega⟩, by omega, by rw [lnA, a14.2.2]; omega⟩, ne_sa w (m + 2) (show m + 3 ≠ m + 2 by omega), wl_eq, sa_sv, w32_eq (by omega) (by omega)]
    · by_cases z : x = a
      · rw [g3 x (by omega)]
        unfold updI
        rw [if_pos z, z]
      · exact g2 x (by omega) x1
    · rw [g3 x (by omega)]
      unfold updI
      rw [if_neg (by omega)]
theorem l_rm108 {many : Int} : ∀ (f : Nat) (a : Int) (w : sW), MSh w m → a + f = 4 → 0 ≤ a → ∃ w', (∀ res, Rn (Ex pro d) mX12_room (108, [some (rV m), some (iV many), some (iV 4)], [], w') res → Rn (Ex pro d) mX12_room (108, [some (rV m), some (iV many), some (iV a)], [], w) res) ∧ MSh w' m ∧ (∀ x, a ≤ x → x < 4 → gv w' (m + 8) x = gv w (m + 9) x) ∧ (∀ x, x < a → gv w' (m + 8) x = gv w (m + 8) x) ∧ Mf w w' (fun r j => r = m + 8)
  | 0, a, w, h, ha, ha0 => ⟨w, fun res g => by rw [show a = 4 by omega]; exact g, h, fun x x0 x1 => by omega, fun x _ => rfl, Mf.refl _ _⟩
  | f + 1, a, w, h, ha, ha0 => by
    have a20 := h.2.2.2.2.2.2.2.2.1
    have a21 := h.2.2.2.2.2.2.2.2.2.1
    have k := h.1.1
    have m1 := Mf.svI w (m + 8) a (gv w (m + 9) a)
    obtain ⟨w', g1, g2, g3, g4, g5⟩ := l_rm108 (many := many) f (a + 1) (sv w (m + 8) a (gv w (m + 9) a)) (h.mf m1 (fun j z => by omega)) (by omega) (by omega)
    refine ⟨w', fun res g => Rn.cut ?_ (g1 res g), g2, fun x x0 x1 => ?_, fun x x0 => by rw [g4 x (by omega), m1.gvE (by omega)], (m1.trans g5).mono (fun r j z => by omega)⟩
    · rw [eX12_room_108, if_pos (by omega), if_pos k, if_pos k, a21.1, if_pos ⟨a21.2.1, by omega, by rw [a21.2.2]; omega⟩, a20.1, if_pos ⟨a20.2.1, by omega, by rw [a20.2.2]; omega⟩, wl_eq, w32_eq (by omega) (by omega)]
    · by_cases z : x = a
      · rw [g4 x (by omega), z, gvSS]
      · rw [g3 x (by omega) x1, m1.gvE (by omega)]
end MQ
