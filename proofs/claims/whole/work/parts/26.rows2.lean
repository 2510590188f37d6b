/-! ===== rows of the class: changes ===== -/
/-- from w to w' only cells of the objects lo .. hi changed -/
def Fr (w w' : sW) (lo hi : Int) : Prop := w'.1 = w.1 ∧ w'.2.2 = w.2.2 ∧ ∀ r j, (r < lo ∨ hi < r) → gv w' r j = gv w r j
theorem Fr.refl (w : sW) (lo hi : Int) : Fr w w lo hi := ⟨rfl, rfl, fun _ _ _ => rfl⟩
theorem Fr.trans {w w' w'' : sW} {lo hi : Int} (h : Fr w w' lo hi) (g : Fr w' w'' lo hi) : Fr w w'' lo hi := ⟨g.1.trans h.1, g.2.1.trans h.2.1, fun r j x => (g.2.2 r j x).trans (h.2.2 r j x)⟩
theorem Fr.mono {w w' : sW} {lo hi lo' hi' : Int} (h : Fr w w' lo hi) (h1 : lo' ≤ lo) (h2 : hi ≤ hi') : Fr w w' lo' hi' := ⟨h.1, h.2.1, fun r j x => h.2.2 r j (by omega)⟩
theorem Fr.kdE {w w' : sW} {lo hi : Int} (h : Fr w w' lo hi) (r : Int) : kd w' r = kd w r := by unfold kd; rw [h.1]
theorem Fr.lnE {w w' : sW} {lo hi : Int} (h : Fr w w' lo hi) (r : Int) : ln w' r = ln w r := by unfold ln; rw [h.1]
theorem Fr.svI {w : sW} {r k v lo hi : Int} (h1 : lo ≤ r) (h2 : r ≤ hi) : Fr w (sv w r k v) lo hi := ⟨rfl, rfl, fun a j x => by rw [gv_sv, if_neg (by omega)]⟩
theorem Fr.cpI {w : sW} {s sp r dp n lo hi : Int} (h1 : lo ≤ r) (h2 : r ≤ hi) : Fr w (cp w s sp r dp n) lo hi := ⟨rfl, rfl, fun a j x => by rw [gv_cp, if_neg (by omega)]⟩
theorem kdS (w : sW) (r k v a : Int) : kd (sv w r k v) a = kd w a := Eq.trans rfl rfl
theorem lnS (w : sW) (r k v a : Int) : ln (sv w r k v) a = ln w a := Eq.trans rfl rfl
theorem gvS (w : sW) (r k v a j : Int) : gv (sv w r k v) a j = if a = r ∧ j = k then v else gv w a j := Eq.trans rfl rfl
theorem kdC (w : sW) (s sp d dp n a : Int) : kd (cp w s sp d dp n) a = kd w a := Eq.trans rfl rfl
theorem lnC (w : sW) (s sp d dp n a : Int) : ln (cp w s sp d dp n) a = ln w a := Eq.trans rfl rfl
theorem gvC (w : sW) (s sp d dp n a j : Int) : gv (cp w s sp d dp n) a j = if a = d ∧ dp ≤ j ∧ j < dp + n then gv w s (sp + (j - dp)) else gv w a j := Eq.trans rfl rfl
theorem wl_eq {α : Type} (w : sW) (f : sW → α) : wl w f = f w := rfl
/-- RowAt without bounds -/
def RowA (w : sW) (a n : Int) (b : Int → Int) (k : Int) (l : Int → Int) : Prop := RowSh w a ∧ gv w a 2 = n ∧ gv w a 3 = k ∧ (∀ i, 0 ≤ i → i < n → gv w (a + 1) i = b i) ∧ ∀ j, 0 ≤ j → j < k → gv w (a + 2) j = l j
theorem RowAt.A {w : sW} {a n k : Int} {b l : Int → Int} (h : RowAt w a n b k l) : RowA w a n b k l := ⟨h.1, h.2.1, h.2.2.1, h.2.2.2.2.2.1, h.2.2.2.2.2.2⟩
theorem RowA.At {w : sW} {a n k : Int} {b l : Int → Int} (h : RowA w a n b k l) (hn : 0 ≤ n ∧ n ≤ 600) (hk : 0 ≤ k ∧ k ≤ 150) : RowAt w a n b k l := ⟨h.1, h.2.1, h.2.2.1, hn, hk, h.2.2.2.1, h.2.2.2.2⟩
def updI (l : Int → Int) (j v : Int) : Int → Int := fun x => if x = j then v else l x
/-- the leaf with place p, walked from leaf j on (s places before it), f leaves before the last -/
def lfw (l : Int → Int) (p s j : Int) : Nat → Int
  | 0 => j
  | f + 1 => if p < s + l j then j else lfw l p (s + l j) (j + 1) f
theorem lfw_rg (l : Int → Int) (p : Int) : ∀ (f : Nat) (s j : Int), j ≤ lfw l p s j f ∧ lfw l p s j f ≤ j + f
  | 0, s, j => by simp [lfw]
  | f + 1, s, j => by
    have := lfw_rg l p f (s + l j) (j + 1)
    simp only [lfw]
    split <;> omega
def lastL (k : Int) : Int := if k - 1 < 0 then 0 else k - 1
def leafW (l : Int → Int) (n k p : Int) : Int := if p < n - l (lastL k) then lfw l p 0 0 (lastL k).toNat else lastL k
section RC
variable {d : Nat} {w : sW} {a n k : Int} {b l : Int → Int}
theorem l_leafWith {C : sC} (h : RowA w a n b k l) (hk : 1 ≤ k ∧ k ≤ 151) (hl : ∀ j, 0 ≤ j → j < k → 0 ≤ l j ∧ l j ≤ 1000) {p : Int} : ∀ (f : Nat) (s j : Int), j + f = k - 1 → 0 ≤ j → 0 ≤ s → s ≤ 1000 * j → Rn C mX5_leafWith (33, [some (rV a), some (iV p), some (iV (k - 1)), some (iV s), some (iV j)], [], w) (some (iV (lfw l p s j f)), w)
  | 0, s, j, hf, hj, hs, hsj => by
    refine Rn.ret ?_
    rw [eX5_leafWith_33]
    grind [lfw]
  | f + 1, s, j, hf, hj, hs, hsj => by
    have hlj := hl j hj (by omega)
    have ih := l_leafWith (C := C) h hk hl (p := p) f (s + l j) (j + 1) (by omega) (by omega) (by omega) (by omega)
    obtain ⟨⟨s1, s2, s3, s4, s5, s6, s7, s8⟩, h2, h3, h6, h7⟩ := h
    have e := h7 j hj (by omega)
    by_cases c : p < s + l j
    · refine Rn.ret ?_
      rw [eX5_leafWith_33]
      grind [lfw, w32_eq]
    · rw [show lfw l p s j (f + 1) = lfw l p (s + l j) (j + 1) f by simp [lfw, c]]
      refine Rn.cut ?_ ih
      rw [eX5_leafWith_33]
      grind [w32_eq]
theorem s_leafWith (h : RowA w a n b k l) (hn : 0 ≤ n ∧ n ≤ 600) (hk : 1 ≤ k ∧ k ≤ 151) (hl : ∀ j, 0 ≤ j → j < k → 0 ≤ l j ∧ l j ≤ 1000) (p : Int) : Ex pro (d + 1) 47 w [rV a, iV p] = some (some (iV (leafW l n k p)), w) := by
  have hm := l_leafWith (C := Ex pro d) h hk hl (p := p) (k - 1).toNat 0 0 (by omega) (by omega) (by omega) (by omega)
  have hh := hl (k - 1) (by omega) (by omega)
  obtain ⟨⟨s1, s2, s3, s4, s5, s6, s7, s8⟩, h2, h3, h6, h7⟩ := h
  have e := h7 (k - 1) (by omega) (by omega)
  have e1 : lastL k = k - 1 := by unfold lastL; grind
  have e2 : w32 (gv w a 3 - 1) = k - 1 := by rw [h3]; exact w32_eq (by omega) (by omega)
  by_cases c : p < n - l (k - 1)
  · rw [show leafW l n k p = lfw l p 0 0 (k - 1).toNat by unfold leafW; rw [e1, if_pos c]]
    refine xX5_leafWith (Rn.cut ?_ hm)
    rw [eX5_leafWith_0, e2]
    grind [w32_eq]
  · rw [show leafW l n k p = k - 1 by unfold leafW; rw [e1, if_neg c]]
    refine xX5_leafWith (Rn.ret ?_)
    rw [eX5_leafWith_0, e2]
    grind [w32_eq]
theorem leafW_rg (hk : 1 ≤ k) (p : Int) : 0 ≤ leafW l n k p ∧ leafW l n k p < k := by
  have e1 : lastL k = k - 1 := by unfold lastL; grind
  have := lfw_rg l p (k - 1).toNat 0 0
  unfold leafW
  rw [e1]
  split <;> omega
def halK (l : Int → Int) (k j low : Int) : Int := if 2 * low < l j ∧ k < 152 then k + 1 else k
def halL (l : Int → Int) (k j low : Int) : Int → Int := if 2 * low < l j ∧ k < 152 then fun x => if x < j then l x else if x = j then l j - Int.tdiv (l j) 2 else if x = j + 1 then Int.tdiv (l j) 2 else l (x - 1) else l
theorem s_halve (h : RowA w a n b k l) (hk : 1 ≤ k ∧ k ≤ 151) {j low : Int} (hj : 0 ≤ j ∧ j < k) (hl : 0 ≤ l j ∧ l j ≤ 2000) (hlow : 0 ≤ low ∧ low ≤ 1000) : ∃ w', Ex pro (d + 1) 49 w [rV a, iV j, iV low] = some (none, w') ∧ Fr w w' a (a + 2) ∧ RowA w' a n b (halK l k j low) (halL l k j low) := by
  obtain ⟨⟨s1, s2, s3, s4, s5, s6, s7, s8⟩, h2, h3, h6, h7⟩ := h
  have e := h7 j (by omega) (by omega)
  have ew : w32 (2 * low) = 2 * low := w32_eq (by omega) (by omega)
  by_cases c : 2 * low < l j
  · have c2 : 2 * low < l j ∧ k < 152 := ⟨c, by omega⟩
    have q : 0 ≤ Int.tdiv (l j) 2 ∧ Int.tdiv (l j) 2 ≤ l j := by rw [Int.tdiv_eq_ediv_of_nonneg hl.1]; omega
    refine ⟨sv (sv (sv (cp w (a + 2) (j + 1) (a + 2) (j + 2) (k - j - 1)) (a + 2) j (l j - Int.tdiv (l j) 2)) (a + 2) (j + 1) (Int.tdiv (l j) 2)) a 3 (k + 1), ?_, ?_, ?_⟩
    · refine xX5_halveIfTooBig (Rn.ret ?_)
      rw [eX5_halveIfTooBig_0]
      simp only [wl_eq, kdS, kdC, lnS, lnC]
      rw [s3, e, h3, ew, w32_eq (x := j + 1) (by omega) (by omega), w32_eq (x := j + 2) (by omega) (by omega), w32_eq (x := k - j) (by omega) (by omega), w32_eq (x := k - j - 1) (by omega) (by omega), w32_eq (x := Int.tdiv (l j) 2) (by omega) (by omega), w32_eq (x := l j - Int.tdiv (l j) 2) (by omega) (by omega)]
      generalize Int.tdiv (l j) 2 = t at q ⊢
      grind [w32_eq, gvS, gvC]
    · refine Fr.trans (w' := cp w (a + 2) (j + 1) (a + 2) (j + 2) (k - j - 1)) (Fr.cpI (by omega) (by omega)) (Fr.trans (Fr.svI (r := a + 2) (by omega) (by omega)) (Fr.trans (Fr.svI (r := a + 2) (by omega) (by omega)) (Fr.svI (by omega) (by omega))))
    · unfold halK halL
      rw [if_pos c2, if_pos c2]
      unfold RowA RowSh
      simp only [kdS, kdC, lnS, lnC, gvS, gvC]
      grind
  · have c2 : ¬ (2 * low < l j ∧ k < 152) := fun z => c z.1
    refine ⟨w, ?_, Fr.refl _ _ _, ?_⟩
    · refine xX5_halveIfTooBig (Rn.ret ?_)
      rw [eX5_halveIfTooBig_0]
      grind
    · unfold halK halL
      rw [if_neg c2, if_neg c2]
      exact ⟨⟨s1, s2, s3, s4, s5, s6, s7, s8⟩, h2, h3, h6, h7⟩
end RC
