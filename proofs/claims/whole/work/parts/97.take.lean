/-! ===== takes of the class in one form: (fault, its place, where reading goes on) ===== -/
abbrev Ts := Int × Int × Int
def stN (t : Int → Int) (n most : Int) (S : Ts) (a b : Int) : Ts × Int :=
  if S.1 = 0 then (if atN t n most S.2.2 a b then ((0, S.2.1, tkT t n most S.2.2), tkN t n most S.2.2) else ((whyNm t n most S.2.2, tkP t n most S.2.2, S.2.2), -1)) else (S, -1)
def stR (t : Int → Int) (n most : Int) (A : Rm) (S : Ts) (a : Int) : Ts × Int :=
  if S.1 = 0 then (if isNm t n most S.2.2 ∧ rowN A t n most S.2.2 ≠ -1 ∧ rowN A t n most S.2.2 ≠ a then ((0, S.2.1, tkT t n most S.2.2), rowN A t n most S.2.2) else (((if isNm t n most S.2.2 then 3 else 1), tkP t n most S.2.2, S.2.2), -1)) else (S, -1)
def stS (t : Int → Int) (n most : Int) (S : Ts) (c : Int) : Ts :=
  if S.1 = 0 then (if atS t n most S.2.2 c then (0, S.2.1, tkT t n most S.2.2) else (1, tkP t n most S.2.2, S.2.2)) else S
def stF (t : Int → Int) (n most : Int) (S : Ts) (e : Int) : Ts := if S.1 = 0 then (e, tkP t n most S.2.2, S.2.2) else S
/-- the class's reader stands so -/
def RS (w : sW) (t : Int → Int) (n most : Int) (S : Ts) : Prop := RdI w t n most S.2.2 ∧ FlI w S.1 S.2.1 ∧ WordI w ∧ 0 ≤ S.2.2
section TK
variable {d : Nat} {w : sW} {t : Int → Int} {n most : Int} {S : Ts}
theorem RS.mf {w' : sW} {P : Int → Int → Prop} (h : RS w t n most S) (g : Mf w w' P) (h1 : ∀ j, ¬ P 34 j) (h2 : ∀ j, ¬ P 33 j) (h3 : ∀ r j, 1 ≤ r → r ≤ 24 → ¬ P r j) : RS w' t n most S :=
  ⟨h.1.mf g (fun j _ _ => h1 j) h2, ⟨by rw [g.gvE (h1 _)]; exact h.2.1.1, by rw [g.gvE (h1 _)]; exact h.2.1.2⟩, h.2.2.1.eq (g.eqO (fun r j r0 r1 => h3 r j (by omega) (by omega))), h.2.2.2⟩
theorem t_stN (h : RS w t n most S) (a b : Int) : ∃ w', Ex pro (d + 3) 25 w [rV 34, iV a, iV b] = some (some (iV (stN t n most S a b).2), w') ∧ RS w' t n most (stN t n most S a b).1 ∧ Mf w w' rdC' := by
  obtain ⟨h1, h2, h3, h4⟩ := h
  unfold stN
  by_cases c : S.1 = 0
  · rw [if_pos c]
    rw [c] at h2
    by_cases y : atN t n most S.2.2 a b
    · rw [if_pos y]
      have ti := tk_in (t := t) (n := n) (most := most) (p := S.2.2) (by omega)
      obtain ⟨w', a1, a2, a3, a4, a5⟩ := t_numY (d := d) h3 h1 h2 h4 y
      exact ⟨w', a1, ⟨a2, a3, a4, by show 0 ≤ tkT t n most S.2.2; omega⟩, a5⟩
    · rw [if_neg y]
      obtain ⟨w', a1, a2, a3, a4, a5⟩ := t_numN (d := d) h3 h1 h2 y
      exact ⟨w', a1, ⟨a2, a3, a4, h4⟩, a5⟩
  · rw [if_neg c]
    exact ⟨w, t_numF h1 h2 c a b, ⟨h1, h2, h3, h4⟩, Mf.refl _ _⟩
theorem t_stR {q : Int} {A : Rm} (h : RS w t n most S) (hS : StI w q A) (hq : q = 36 ∨ q = 53) (a : Int) : ∃ w', Ex pro (d + 3) 26 w [rV 34, rV q, iV a] = some (some (iV (stR t n most A S a).2), w') ∧ RS w' t n most (stR t n most A S a).1 ∧ Mf w w' rdC' := by
  obtain ⟨h1, h2, h3, h4⟩ := h
  unfold stR
  by_cases c : S.1 = 0
  · rw [if_pos c]
    rw [c] at h2
    by_cases y : isNm t n most S.2.2 ∧ rowN A t n most S.2.2 ≠ -1 ∧ rowN A t n most S.2.2 ≠ a
    · rw [if_pos y]
      have ti := tk_in (t := t) (n := n) (most := most) (p := S.2.2) (by have := y.1.1; omega)
      obtain ⟨w', a1, a2, a3, a4, a5⟩ := t_rowY (d := d) h3 h1 h2 h4 hS hq y.1 y.2.1 y.2.2
      exact ⟨w', a1, ⟨a2, a3, a4, by show 0 ≤ tkT t n most S.2.2; omega⟩, a5⟩
    · rw [if_neg y]
      obtain ⟨w', a1, a2, a3, a4, a5⟩ := t_rowN (d := d) h3 h1 h2 hS y
      exact ⟨w', a1, ⟨a2, a3, a4, h4⟩, a5⟩
  · rw [if_neg c]
    exact ⟨w, t_rowF h1 h2 c, ⟨h1, h2, h3, h4⟩, Mf.refl _ _⟩
theorem t_stS (h : RS w t n most S) (c : Int) : ∃ w', Ex pro (d + 3) 23 w [rV 34, iV c] = some (none, w') ∧ RS w' t n most (stS t n most S c) ∧ Mf w w' rdC' := by
  obtain ⟨h1, h2, h3, h4⟩ := h
  unfold stS
  by_cases z : S.1 = 0
  · rw [if_pos z]
    rw [z] at h2
    by_cases y : atS t n most S.2.2 c
    · rw [if_pos y]
      have ti := tk_in (t := t) (n := n) (most := most) (p := S.2.2) (by omega)
      obtain ⟨w', a1, a2, a3, a4, a5⟩ := t_signY (d := d) h3 h1 h2 h4 y
      exact ⟨w', a1, ⟨a2, a3, a4, by show 0 ≤ tkT t n most S.2.2; omega⟩, a5⟩
    · rw [if_neg y]
      obtain ⟨w', a1, a2, a3, a4, a5⟩ := t_signN (d := d) h3 h1 h2 y
      exact ⟨w', a1, ⟨a2, a3, a4, h4⟩, a5⟩
  · rw [if_neg z]
    exact ⟨w, t_signF h1 h2 z c, ⟨h1, h2, h3, h4⟩, Mf.refl _ _⟩
theorem t_stF (h : RS w t n most S) (e : Int) : ∃ w', Ex pro (d + 1) 20 w [rV 34, iV e] = some (none, w') ∧ RS w' t n most (stF t n most S e) ∧ Mf w w' rdC' := by
  obtain ⟨h1, h2, h3, h4⟩ := h
  unfold stF
  by_cases z : S.1 = 0
  · rw [if_pos z]
    rw [z] at h2
    obtain ⟨w', a1, a2, a3, a4⟩ := t_fail (d := d) h1 h2 e
    exact ⟨w', a1, ⟨a2, a3, h3.mf34 a4, h4⟩, a4⟩
  · rw [if_neg z]
    exact ⟨w, t_failF h1 h2 z e, ⟨h1, h2, h3, h4⟩, Mf.refl _ _⟩
end TK
