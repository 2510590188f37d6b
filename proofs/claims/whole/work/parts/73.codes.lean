/-! ===== words: their codes ===== -/
abbrev isA (c : Int) : Prop := 97 ≤ c ∧ c ≤ 122
abbrev isD (c : Int) : Prop := 48 ≤ c ∧ c ≤ 57
/-- f letters from p on as one number -/
def cod (b : Int) (t : Int → Int) (p : Int) : Nat → Int
  | 0 => 0
  | f + 1 => cod b t p f * b + (t (p + f) - 96)
def ltOk (t : Int → Int) (p : Int) (f : Nat) : Prop := ∀ i, 0 ≤ i → i < (f : Int) → isA (t (p + i))
theorem ltOk.pred {t : Int → Int} {p : Int} {f : Nat} (h : ltOk t p (f + 1)) : ltOk t p f := fun i i0 i1 => h i i0 (by omega)
theorem cod32_rg {t : Int → Int} {p : Int} : ∀ (f : Nat), ltOk t p f → 0 ≤ cod 32 t p f ∧ (1 ≤ f → 1 ≤ cod 32 t p f) ∧ cod 32 t p f < 32 ^ f
  | 0, h => by simp [cod]
  | f + 1, h => by
    have ih := cod32_rg f h.pred
    have l := h f (by omega) (by omega)
    simp only [cod]
    rw [Int.pow_succ]
    omega
theorem cod27_rg {t : Int → Int} {p : Int} : ∀ (f : Nat), ltOk t p f → 0 ≤ cod 27 t p f ∧ (1 ≤ f → 1 ≤ cod 27 t p f) ∧ cod 27 t p f < 27 ^ f
  | 0, h => by simp [cod]
  | f + 1, h => by
    have ih := cod27_rg f h.pred
    have l := h f (by omega) (by omega)
    simp only [cod]
    rw [Int.pow_succ]
    omega
theorem p32 {f : Nat} (h : f ≤ 7) : (32 : Int) ^ f ≤ 34359738368 := by
  have : f = 0 ∨ f = 1 ∨ f = 2 ∨ f = 3 ∨ f = 4 ∨ f = 5 ∨ f = 6 ∨ f = 7 := by omega
  rcases this with e | e | e | e | e | e | e | e <;> subst e <;> decide
theorem p27 {f : Nat} (h : f ≤ 7) : (27 : Int) ^ f ≤ 10460353203 := by
  have : f = 0 ∨ f = 1 ∨ f = 2 ∨ f = 3 ∨ f = 4 ∨ f = 5 ∨ f = 6 ∨ f = 7 := by omega
  rcases this with e | e | e | e | e | e | e | e <;> subst e <;> decide
theorem cod_32 {t u : Int → Int} {p q : Int} : ∀ (f g : Nat), ltOk t p f → ltOk u q g → cod 32 t p f = cod 32 u q g → cod 27 t p f = cod 27 u q g
  | 0, 0, h, k, e => rfl
  | 0, g + 1, h, k, e => by
    have := (cod32_rg (g + 1) k).2.1 (by omega)
    rw [← e] at this
    simp [cod] at this
  | f + 1, 0, h, k, e => by
    have := (cod32_rg (f + 1) h).2.1 (by omega)
    rw [e] at this
    simp [cod] at this
  | f + 1, g + 1, h, k, e => by
    have l := h f (by omega) (by omega)
    have l' := k g (by omega) (by omega)
    simp only [cod] at e ⊢
    rw [cod_32 f g h.pred k.pred (by omega)]
    omega
theorem cod_27 {t u : Int → Int} {p q : Int} : ∀ (f g : Nat), ltOk t p f → ltOk u q g → cod 27 t p f = cod 27 u q g → cod 32 t p f = cod 32 u q g
  | 0, 0, h, k, e => rfl
  | 0, g + 1, h, k, e => by
    have := (cod27_rg (g + 1) k).2.1 (by omega)
    rw [← e] at this
    simp [cod] at this
  | f + 1, 0, h, k, e => by
    have := (cod27_rg (f + 1) h).2.1 (by omega)
    rw [e] at this
    simp [cod] at this
  | f + 1, g + 1, h, k, e => by
    have l := h f (by omega) (by omega)
    have l' := k g (by omega) (by omega)
    simp only [cod] at e ⊢
    rw [cod_27 f g h.pred k.pred (by omega)]
    omega
/-- a and b are the two codes of one word of letters -/
def nmR (a b : Int) : Prop := ∃ t p f, f ≤ 7 ∧ ltOk t p f ∧ a = cod 32 t p f ∧ b = cod 27 t p f
theorem nmR.iff {a b a' b' : Int} (h : nmR a b) (g : nmR a' b') : a = a' ↔ b = b' := by
  obtain ⟨t, p, f, f7, h1, h2, h3⟩ := h
  obtain ⟨u, q, k, k7, g1, g2, g3⟩ := g
  rw [h2, h3, g2, g3]
  exact ⟨fun e => cod_32 f k h1 g1 e, fun e => cod_27 f k h1 g1 e⟩
theorem nmR.rg {a b : Int} (h : nmR a b) : (0 ≤ a ∧ a < 34359738368) ∧ 0 ≤ b ∧ b < 10460353203 := by
  obtain ⟨t, p, f, f7, h1, h2, h3⟩ := h
  have a1 := cod32_rg f h1
  have a2 := cod27_rg f h1
  have a3 := p32 f7
  have a4 := p27 f7
  omega
/-- the codes of the words that the texts tell -/
def wc32 (k : Int) : Int := if k = 0 then 398374 else if k = 1 then 18935 else if k = 2 then 13074306643 else if k = 3 then 17076 else if k = 4 then 19636 else if k = 5 then 3764 else if k = 6 then 677454 else if k = 7 then 343342 else if k = 8 then 20459828 else if k = 9 then 681477 else if k = 10 then 5834341 else if k = 11 then 498 else if k = 12 then 1476 else if k = 13 then 14836 else if k = 14 then 5685913 else if k = 15 then 186542 else if k = 16 then 402789 else if k = 17 then 72590803 else if k = 18 then 632645 else if k = 19 then 506035 else if k = 20 then 611795 else if k = 21 then 407951539 else 492210354
def wc27 (k : Int) : Int := if k = 0 then 239874 else if k = 1 then 13550 else if k = 2 then 4731817033 else if k = 3 then 12251 else if k = 4 then 14006 else if k = 5 then 2774 else if k = 6 then 409469 else if k = 7 then 208022 else if k = 8 then 10421318 else if k = 9 then 412322 else if k = 10 then 3012746 else if k = 11 then 423 else if k = 12 then 1111 else if k = 13 then 10631 else if k = 14 then 2925313 else if k = 15 then 114602 else if k = 16 then 243059 else if k = 17 then 31499758 else if k = 18 then 381245 else if k = 19 then 305605 else if k = 20 then 370000 else if k = 21 then 174879964 else 212302449
theorem k23 {k : Int} (h : 0 ≤ k ∧ k < 23) : k = 0 ∨ k = 1 ∨ k = 2 ∨ k = 3 ∨ k = 4 ∨ k = 5 ∨ k = 6 ∨ k = 7 ∨ k = 8 ∨ k = 9 ∨ k = 10 ∨ k = 11 ∨ k = 12 ∨ k = 13 ∨ k = 14 ∨ k = 15 ∨ k = 16 ∨ k = 17 ∨ k = 18 ∨ k = 19 ∨ k = 20 ∨ k = 21 ∨ k = 22 := by omega
theorem nm_w {k : Int} (h : 0 ≤ k ∧ k < 23) : nmR (wc32 k) (wc27 k) := by
  rcases k23 h with e | e | e | e | e | e | e | e | e | e | e | e | e | e | e | e | e | e | e | e | e | e | e <;> subst e
  · exact ⟨fun i => ([108, 101, 97, 102] : List Int).getD i.toNat 0, 0, 4, by decide, fun i i0 i1 => by
      have : i = 0 ∨ i = 1 ∨ i = 2 ∨ i = 3 := by omega
      rcases this with e | e | e | e <;> subst e <;> decide, by decide, by decide⟩
  · exact ⟨fun i => ([114, 111, 119] : List Int).getD i.toNat 0, 0, 3, by decide, fun i i0 i1 => by
      have : i = 0 ∨ i = 1 ∨ i = 2 := by omega
      rcases this with e | e | e <;> subst e <;> decide, by decide, by decide⟩
  · exact ⟨fun i => ([108, 101, 116, 116, 101, 114, 115] : List Int).getD i.toNat 0, 0, 7, by decide, fun i i0 i1 => by
      have : i = 0 ∨ i = 1 ∨ i = 2 ∨ i = 3 ∨ i = 4 ∨ i = 5 ∨ i = 6 := by omega
      rcases this with e | e | e | e | e | e | e <;> subst e <;> decide, by decide, by decide⟩
  · exact ⟨fun i => ([112, 117, 116] : List Int).getD i.toNat 0, 0, 3, by decide, fun i i0 i1 => by
      have : i = 0 ∨ i = 1 ∨ i = 2 := by omega
      rcases this with e | e | e <;> subst e <;> decide, by decide, by decide⟩
  · exact ⟨fun i => ([115, 101, 116] : List Int).getD i.toNat 0, 0, 3, by decide, fun i i0 i1 => by
      have : i = 0 ∨ i = 1 ∨ i = 2 := by omega
      rcases this with e | e | e <;> subst e <;> decide, by decide, by decide⟩
  · exact ⟨fun i => ([99, 117, 116] : List Int).getD i.toNat 0, 0, 3, by decide, fun i i0 i1 => by
      have : i = 0 ∨ i = 1 ∨ i = 2 := by omega
      rcases this with e | e | e <;> subst e <;> decide, by decide, by decide⟩
  · exact ⟨fun i => ([116, 117, 114, 110] : List Int).getD i.toNat 0, 0, 4, by decide, fun i i0 i1 => by
      have : i = 0 ∨ i = 1 ∨ i = 2 ∨ i = 3 := by omega
      rcases this with e | e | e | e <;> subst e <;> decide, by decide, by decide⟩
  · exact ⟨fun i => ([106, 111, 105, 110] : List Int).getD i.toNat 0, 0, 4, by decide, fun i i0 i1 => by
      have : i = 0 ∨ i = 1 ∨ i = 2 ∨ i = 3 := by omega
      rcases this with e | e | e | e <;> subst e <;> decide, by decide, by decide⟩
  · exact ⟨fun i => ([115, 112, 108, 105, 116] : List Int).getD i.toNat 0, 0, 5, by decide, fun i i0 i1 => by
      have : i = 0 ∨ i = 1 ∨ i = 2 ∨ i = 3 ∨ i = 4 := by omega
      rcases this with e | e | e | e | e <;> subst e <;> decide, by decide, by decide⟩
  · exact ⟨fun i => ([116, 121, 112, 101] : List Int).getD i.toNat 0, 0, 4, by decide, fun i i0 i1 => by
      have : i = 0 ∨ i = 1 ∨ i = 2 ∨ i = 3 := by omega
      rcases this with e | e | e | e <;> subst e <;> decide, by decide, by decide⟩
  · exact ⟨fun i => ([101, 114, 97, 115, 101] : List Int).getD i.toNat 0, 0, 5, by decide, fun i i0 i1 => by
      have : i = 0 ∨ i = 1 ∨ i = 2 ∨ i = 3 ∨ i = 4 := by omega
      rcases this with e | e | e | e | e <;> subst e <;> decide, by decide, by decide⟩
  · exact ⟨fun i => ([111, 114] : List Int).getD i.toNat 0, 0, 2, by decide, fun i i0 i1 => by
      have : i = 0 ∨ i = 1 := by omega
      rcases this with e | e <;> subst e <;> decide, by decide, by decide⟩
  · exact ⟨fun i => ([97, 110, 100] : List Int).getD i.toNat 0, 0, 3, by decide, fun i i0 i1 => by
      have : i = 0 ∨ i = 1 ∨ i = 2 := by omega
      rcases this with e | e | e <;> subst e <;> decide, by decide, by decide⟩
  · exact ⟨fun i => ([110, 111, 116] : List Int).getD i.toNat 0, 0, 3, by decide, fun i i0 i1 => by
      have : i = 0 ∨ i = 1 ∨ i = 2 := by omega
      rcases this with e | e | e <;> subst e <;> decide, by decide, by decide⟩
  · exact ⟨fun i => ([101, 109, 112, 116, 121] : List Int).getD i.toNat 0, 0, 5, by decide, fun i i0 i1 => by
      have : i = 0 ∨ i = 1 ∨ i = 2 ∨ i = 3 ∨ i = 4 := by omega
      rcases this with e | e | e | e | e <;> subst e <;> decide, by decide, by decide⟩
  · exact ⟨fun i => ([101, 118, 101, 110] : List Int).getD i.toNat 0, 0, 4, by decide, fun i i0 i1 => by
      have : i = 0 ∨ i = 1 ∨ i = 2 ∨ i = 3 := by omega
      rcases this with e | e | e | e <;> subst e <;> decide, by decide, by decide⟩
  · exact ⟨fun i => ([108, 105, 107, 101] : List Int).getD i.toNat 0, 0, 4, by decide, fun i i0 i1 => by
      have : i = 0 ∨ i = 1 ∨ i = 2 ∨ i = 3 := by omega
      rcases this with e | e | e | e <;> subst e <;> decide, by decide, by decide⟩
  · exact ⟨fun i => ([98, 101, 103, 105, 110, 115] : List Int).getD i.toNat 0, 0, 6, by decide, fun i i0 i1 => by
      have : i = 0 ∨ i = 1 ∨ i = 2 ∨ i = 3 ∨ i = 4 ∨ i = 5 := by omega
      rcases this with e | e | e | e | e | e <;> subst e <;> decide, by decide, by decide⟩
  · exact ⟨fun i => ([115, 105, 122, 101] : List Int).getD i.toNat 0, 0, 4, by decide, fun i i0 i1 => by
      have : i = 0 ∨ i = 1 ∨ i = 2 ∨ i = 3 := by omega
      rcases this with e | e | e | e <;> subst e <;> decide, by decide, by decide⟩
  · exact ⟨fun i => ([111, 110, 101, 115] : List Int).getD i.toNat 0, 0, 4, by decide, fun i i0 i1 => by
      have : i = 0 ∨ i = 1 ∨ i = 2 ∨ i = 3 := by omega
      rcases this with e | e | e | e <;> subst e <;> decide, by decide, by decide⟩
  · exact ⟨fun i => ([114, 117, 110, 115] : List Int).getD i.toNat 0, 0, 4, by decide, fun i i0 i1 => by
      have : i = 0 ∨ i = 1 ∨ i = 2 ∨ i = 3 := by omega
      rcases this with e | e | e | e <;> subst e <;> decide, by decide, by decide⟩
  · exact ⟨fun i => ([108, 101, 97, 118, 101, 115] : List Int).getD i.toNat 0, 0, 6, by decide, fun i i0 i1 => by
      have : i = 0 ∨ i = 1 ∨ i = 2 ∨ i = 3 ∨ i = 4 ∨ i = 5 := by omega
      rcases this with e | e | e | e | e | e <;> subst e <;> decide, by decide, by decide⟩
  · exact ⟨fun i => ([110, 117, 109, 98, 101, 114] : List Int).getD i.toNat 0, 0, 6, by decide, fun i i0 i1 => by
      have : i = 0 ∨ i = 1 ∨ i = 2 ∨ i = 3 ∨ i = 4 ∨ i = 5 := by omega
      rcases this with e | e | e | e | e | e <;> subst e <;> decide, by decide, by decide⟩
theorem wc_inj {k j : Int} (h : 0 ≤ k ∧ k < 23) (g : 0 ≤ j ∧ j < 23) (e : wc32 k = wc32 j) : k = j := by
  have key : ∀ a : Fin 23, ∀ b : Fin 23, wc32 (a.val : Int) = wc32 (b.val : Int) → a = b := by decide +kernel
  have := key ⟨k.toNat, by omega⟩ ⟨j.toNat, by omega⟩ (by
    show wc32 (k.toNat : Int) = wc32 (j.toNat : Int)
    rw [show (k.toNat : Int) = k by omega, show (j.toNat : Int) = j by omega]
    exact e)
  have e2 : k.toNat = j.toNat := congrArg Fin.val this
  omega
/-- which word a code is (from 1 on), or 0 -/
def wsr (c k : Int) : Nat → Int
  | 0 => 0
  | f + 1 => if wc32 k = c then k + 1 else wsr c (k + 1) f
def wid (c : Int) : Int := wsr c 0 23
theorem wsr_rg (c : Int) : ∀ (f : Nat) (k : Int), 0 ≤ k → wsr c k f = 0 ∨ (k + 1 ≤ wsr c k f ∧ wsr c k f ≤ k + f)
  | 0, k, h => Or.inl rfl
  | f + 1, k, h => by
    have := wsr_rg c f (k + 1) (by omega)
    simp only [wsr]
    split <;> omega
theorem wid_rg (c : Int) : 0 ≤ wid c ∧ wid c ≤ 23 := by
  have := wsr_rg c 23 0 (by omega)
  unfold wid
  omega
theorem wsr_at {c : Int} : ∀ (f : Nat) (k : Int), 0 ≤ k → wsr c k f ≠ 0 → wc32 (wsr c k f - 1) = c
  | 0, k, h, z => absurd rfl z
  | f + 1, k, h, z => by
    simp only [wsr] at z ⊢
    by_cases e : wc32 k = c
    · rw [if_pos e, show k + 1 - 1 = k by omega]; exact e
    · rw [if_neg e] at z ⊢; exact wsr_at f (k + 1) (by omega) z
theorem wsr_no {c : Int} : ∀ (f : Nat) (k : Int), 0 ≤ k → wsr c k f = 0 → ∀ j, k ≤ j → j < k + f → wc32 j ≠ c
  | 0, k, h, z, j, j0, j1 => by omega
  | f + 1, k, h, z, j, j0, j1 => by
    simp only [wsr] at z
    by_cases e : wc32 k = c
    · rw [if_pos e] at z; omega
    · rw [if_neg e] at z
      by_cases y : j = k
      · rw [y]; exact e
      · exact wsr_no f (k + 1) (by omega) z j (by omega) (by omega)
theorem wid_iff {c k : Int} (h : 0 ≤ k ∧ k < 23) : wid c = k + 1 ↔ c = wc32 k := by
  have r := wid_rg c
  constructor
  · intro e
    have := wsr_at (c := c) 23 0 (by omega) (by show wid c ≠ 0; omega)
    rw [show wsr c 0 23 - 1 = k by show wid c - 1 = k; omega] at this
    exact this.symm
  · intro e
    by_cases z : wid c = 0
    · exact absurd e.symm (wsr_no (c := c) 23 0 (by omega) z k (by omega) (by omega))
    · have a := wsr_at (c := c) 23 0 (by omega) z
      have := wc_inj (k := wid c - 1) (j := k) (by omega) h (by rw [← e]; exact a)
      omega
theorem wid_0 {c : Int} : wid c = 0 ↔ ∀ k, 0 ≤ k → k < 23 → c ≠ wc32 k := by
  constructor
  · intro z k k0 k1 e
    have := (wid_iff (c := c) ⟨k0, k1⟩).mpr e
    omega
  · intro h
    by_cases z : wid c = 0
    · exact z
    · have r := wid_rg c
      have a := wsr_at (c := c) 23 0 (by omega) z
      exact absurd a.symm (h (wid c - 1) (by omega) (by omega))
