/-! ===== the lines that were read without a fault are good ===== -/
theorem nmb_rg {N : Int → Int} {v : Int} : ∀ (f : Nat) (r : Int), nmb N v r f = -1 ∨ (r ≤ nmb N v r f ∧ nmb N v r f < r + f)
  | 0, r => Or.inl rfl
  | f + 1, r => by
    unfold nmb
    by_cases c : N r = v
    · rw [if_pos c]; omega
    · rw [if_neg c]
      have := nmb_rg (N := N) (v := v) f (r + 1)
      omega
section GD
variable {t : Int → Int} {n most : Int} {A : Rm} {S : Ts}
theorem stN_y {a b : Int} (h : (stN t n most S a b).1.1 = 0) : S.1 = 0 ∧ a ≤ (stN t n most S a b).2 ∧ (stN t n most S a b).2 ≤ b := by
  unfold stN at h ⊢
  by_cases c : S.1 = 0
  · rw [if_pos c] at h ⊢
    by_cases y : atN t n most S.2.2 a b
    · rw [if_pos y]; exact ⟨c, y.2.1, y.2.2⟩
    · rw [if_neg y] at h
      change whyNm t n most S.2.2 = 0 at h
      unfold whyNm at h
      split at h <;> omega
  · rw [if_neg c] at h
    exact absurd h c
theorem stR_y {a : Int} (hA : 0 ≤ A.1) (h : (stR t n most A S a).1.1 = 0) : S.1 = 0 ∧ isR A (stR t n most A S a).2 ∧ (stR t n most A S a).2 ≠ a := by
  unfold stR at h ⊢
  by_cases c : S.1 = 0
  · rw [if_pos c] at h ⊢
    by_cases y : isNm t n most S.2.2 ∧ rowN A t n most S.2.2 ≠ -1 ∧ rowN A t n most S.2.2 ≠ a
    · rw [if_pos y]
      have := nmb_rg (N := A.2.2.1) (v := tk32 t n most S.2.2) A.1.toNat 0
      have e : rowN A t n most S.2.2 = nmb A.2.2.1 (tk32 t n most S.2.2) 0 A.1.toNat := rfl
      have y1 := y.2.1
      rw [e] at y1
      refine ⟨c, ?_, y.2.2⟩
      show isR A (rowN A t n most S.2.2)
      rw [e]
      unfold isR
      omega
    · rw [if_neg y] at h
      change (if isNm t n most S.2.2 then (3 : Int) else 1) = 0 at h
      split at h <;> omega
  · rw [if_neg c] at h
    exact absurd h c
theorem stS_y {c : Int} (h : (stS t n most S c).1 = 0) : S.1 = 0 := by
  unfold stS at h
  by_cases e : S.1 = 0
  · exact e
  · rw [if_neg e] at h; exact h
theorem bkL_good {k : Int} (hA : 0 ≤ A.1) (hk : 4 ≤ k ∧ k ≤ 11) (h : (bkL t n most A S k).1.1 = 0) : LnG A (k, (bkL t n most A S k).2) := by
  unfold LnG dOk lnR lnI lnN
  unfold bkL at h ⊢
  by_cases c10 : k = 10
  · subst c10
    rw [if_pos rfl] at h ⊢
    have y1 := stN_y h
    have y2 := stN_y y1.1
    simp [in32]
    omega
  · rw [if_neg c10] at h ⊢
    by_cases c11 : k = 11
    · subst c11
      rw [if_pos rfl] at h ⊢
      have y1 := stN_y h
      have y2 := stN_y y1.1
      simp [in32]
      omega
    · rw [if_neg c11] at h ⊢
      by_cases c8 : k = 8
      · subst c8
        rw [if_pos rfl] at h ⊢
        have y1 := stR_y hA h
        have y2 := stR_y hA y1.1
        simp [in32]
        exact ⟨y2.2.1, y1.2.1, fun z => y1.2.2 z.symm⟩
      · rw [if_neg c8] at h ⊢
        simp only
        rw [if_neg (by omega), if_neg (by omega), if_neg c8, if_neg (by omega)]
        revert h
        unfold thF
        by_cases c9 : k = 9
        · rw [if_pos c9]
          intro h
          have y1 := stR_y hA h
          have y2 := stN_y y1.1
          have y3 := stR_y hA y2.1
          refine ⟨⟨by omega, fun _ => y3.2.1, fun _ => ⟨y1.2.1, fun z => y1.2.2 z.symm⟩, fun _ => by omega, fun _ => by omega, fun _ => by omega, by unfold in32; omega⟩, fun _ => by omega⟩
        · rw [if_neg c9]
          by_cases c4 : k = 4 ∨ k = 5
          · rw [if_pos c4]
            intro h
            have y1 := stN_y h
            have y2 := stN_y y1.1
            have y3 := stR_y hA y2.1
            refine ⟨⟨by omega, fun _ => y3.2.1, fun _ => by omega, fun _ => by omega, fun _ => by omega, fun _ => by omega, by unfold in32; omega⟩, fun _ => by omega⟩
          · rw [if_neg c4]
            intro h
            have y1 := stN_y h
            have y2 := stN_y y1.1
            have y3 := stR_y hA y2.1
            refine ⟨⟨by omega, fun _ => y3.2.1, fun _ => by omega, fun _ => by omega, fun _ => by omega, fun _ => by omega, by unfold in32; omega⟩, fun _ => by omega⟩
theorem bkF_good (hA : 0 ≤ A.1) : ∀ (f : Nat) (p c : Int) (L : Int → Ln), (bkF t n most A f p c L).1 = 0 → (∀ i, 0 ≤ i → i < c → LnG A (L i)) → ∀ i, 0 ≤ i → i < (bkF t n most A f p c L).2.2.1 → LnG A ((bkF t n most A f p c L).2.2.2 i)
  | 0, p, c, L, _, h => h
  | f + 1, p, c, L, e, h => by
    unfold bkF at e ⊢
    by_cases k0 : tkK t n most p = 0
    · rw [if_pos k0]; exact h
    · rw [if_neg k0] at e ⊢
      by_cases k1 : 4 ≤ tkW t n most p ∧ tkW t n most p ≤ 11
      · rw [if_pos k1] at e ⊢
        by_cases k2 : c < 40
        · rw [if_pos k2] at e ⊢
          by_cases k3 : (bkS t n most A p).1 = 0
          · rw [if_pos k3] at e ⊢
            refine bkF_good hA f _ _ _ e (fun i i0 i1 => ?_)
            unfold addL
            by_cases ic : i = c
            · rw [if_pos ic]
              exact bkL_good hA k1 (stS_y k3)
            · rw [if_neg ic]
              exact h i i0 (by omega)
          · rw [if_neg k3] at e
            exact absurd e k3
        · rw [if_neg k2] at e
          exact absurd (show (4 : Int) = 0 from e) (by omega)
      · rw [if_neg k1] at e
        exact absurd (show (1 : Int) = 0 from e) (by omega)
end GD
