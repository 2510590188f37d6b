/-! ===== all lines of a book: the class ===== -/
/-- the reader after a line and its sign -/
def bkS (t : Int → Int) (n most : Int) (A : Rm) (p : Int) : Ts := stS t n most (bkL t n most A (0, 0, tkT t n most p) (tkW t n most p)).1 59
/-- fault, its place, how many lines, the lines -/
def bkF (t : Int → Int) (n most : Int) (A : Rm) : Nat → Int → Int → (Int → Ln) → Int × Int × Int × (Int → Ln)
  | 0, _, c, L => (0, 0, c, L)
  | f + 1, p, c, L =>
    if tkK t n most p = 0 then (0, 0, c, L)
    else if 4 ≤ tkW t n most p ∧ tkW t n most p ≤ 11 then
      (if c < 40 then
        (if (bkS t n most A p).1 = 0 then bkF t n most A f (bkS t n most A p).2.2 (c + 1) (addL L c (tkW t n most p, (bkL t n most A (0, 0, tkT t n most p) (tkW t n most p)).2))
        else ((bkS t n most A p).1, (bkS t n most A p).2.1, c + 1, addL L c (tkW t n most p, (bkL t n most A (0, 0, tkT t n most p) (tkW t n most p)).2)))
      else (4, tkP t n most p, c, L))
    else (1, tkP t n most p, c, L)
theorem stN_z {t : Int → Int} {n most : Int} {S : Ts} {a b : Int} (h : S.1 = 0 → S.2.1 = 0) : (stN t n most S a b).1.1 = 0 → (stN t n most S a b).1.2.1 = 0 := by
  unfold stN
  by_cases c : S.1 = 0
  · rw [if_pos c]
    by_cases y : atN t n most S.2.2 a b
    · rw [if_pos y]; exact fun _ => h c
    · rw [if_neg y]
      intro z
      change whyNm t n most S.2.2 = 0 at z
      unfold whyNm at z
      split at z <;> omega
  · rw [if_neg c]; exact h
theorem stR_z {t : Int → Int} {n most : Int} {A : Rm} {S : Ts} {a : Int} (h : S.1 = 0 → S.2.1 = 0) : (stR t n most A S a).1.1 = 0 → (stR t n most A S a).1.2.1 = 0 := by
  unfold stR
  by_cases c : S.1 = 0
  · rw [if_pos c]
    by_cases y : isNm t n most S.2.2 ∧ rowN A t n most S.2.2 ≠ -1 ∧ rowN A t n most S.2.2 ≠ a
    · rw [if_pos y]; exact fun _ => h c
    · rw [if_neg y]
      intro z
      change (if isNm t n most S.2.2 then (3 : Int) else 1) = 0 at z
      split at z <;> omega
  · rw [if_neg c]; exact h
theorem stS_z {t : Int → Int} {n most : Int} {S : Ts} {c : Int} (h : S.1 = 0 → S.2.1 = 0) : (stS t n most S c).1 = 0 → (stS t n most S c).2.1 = 0 := by
  unfold stS
  by_cases e : S.1 = 0
  · rw [if_pos e]
    by_cases y : atS t n most S.2.2 c
    · rw [if_pos y]; exact fun _ => h e
    · rw [if_neg y]
      intro z
      change (1 : Int) = 0 at z
      omega
  · rw [if_neg e]; exact h
theorem bkS_z {t : Int → Int} {n most : Int} {A : Rm} {p : Int} : (bkS t n most A p).1 = 0 → (bkS t n most A p).2.1 = 0 := by
  unfold bkS
  refine stS_z ?_
  have z0 : ((0, 0, tkT t n most p) : Ts).1 = 0 → ((0, 0, tkT t n most p) : Ts).2.1 = 0 := fun _ => rfl
  unfold bkL
  split
  · exact stN_z (stN_z z0)
  · split
    · exact stN_z (stN_z z0)
    · split
      · exact stR_z (stR_z z0)
      · unfold thF
        split
        · exact stR_z (stN_z (stR_z z0))
        · split
          · exact stN_z (stN_z (stR_z z0))
          · exact stN_z (stN_z (stR_z z0))
