/-! ===== tokens, and the class's reader ===== -/
abbrev srt (k : Int) : Int := if 3 ≤ k ∧ k ≤ 10 then 1 else if 13 ≤ k then 2 else 0
abbrev bas (k : Int) : Int := if 3 ≤ k ∧ k ≤ 10 then 10 * (k - 3) else 0
/-- the words of the class -/
def WordI (w : sW) : Prop := (kd w 24 = 27 ∧ ln w 24 = 23) ∧ ∀ k, 0 ≤ k → k < 23 → gv w 24 k = k + 1 ∧ kd w (k + 1) = 30 ∧ gv w (k + 1) 0 = wc32 k ∧ gv w (k + 1) 1 = srt k ∧ gv w (k + 1) 2 = bas k
theorem WordI.eq {w w' : sW} (h : WordI w) (e : EqO w w' 1 24) : WordI w' := by
  obtain ⟨⟨h1, h2⟩, h3⟩ := h
  refine ⟨⟨by rw [e.kdE (by omega) (by omega)]; exact h1, by rw [e.lnE (by omega) (by omega)]; exact h2⟩, fun k k0 k1 => ?_⟩
  rw [e.gvE (by omega) (by omega), e.kdE (by omega) (by omega), e.gvE (by omega) (by omega), e.gvE (by omega) (by omega), e.gvE (by omega) (by omega)]
  exact h3 k k0 k1
abbrev lim (n most : Int) : Int := if n < most then n else most
def wsF (t : Int → Int) (L : Int) : Nat → Int → Int
  | 0, p => p
  | f + 1, p => if p < L ∧ (t p = 32 ∨ t p = 10) then wsF t L f (p + 1) else p
def enF (t : Int → Int) (n : Int) : Nat → Int → Int
  | 0, p => p
  | f + 1, p => if p < n ∧ (isA (t p) ∨ isD (t p)) then enF t n f (p + 1) else p
def cL (t : Int → Int) (a : Int) : Nat → Int
  | 0 => 0
  | f + 1 => cL t a f + (if isA (t (a + f)) then 1 else 0)
def nm10 (t : Int → Int) (a : Int) : Nat → Int
  | 0 => 0
  | f + 1 => nm10 t a f * 10 + (t (a + f) - 48)
theorem wsF_rg (t : Int → Int) (L : Int) : ∀ (f : Nat) (p : Int), p ≤ wsF t L f p ∧ wsF t L f p ≤ p + f
  | 0, p => by simp [wsF]
  | f + 1, p => by
    have := wsF_rg t L f (p + 1)
    simp only [wsF]
    split <;> omega
theorem enF_rg (t : Int → Int) (n : Int) : ∀ (f : Nat) (p : Int), p ≤ enF t n f p ∧ enF t n f p ≤ p + f
  | 0, p => by simp [enF]
  | f + 1, p => by
    have := enF_rg t n f (p + 1)
    simp only [enF]
    split <;> omega
theorem cL_rg (t : Int → Int) (a : Int) : ∀ (f : Nat), 0 ≤ cL t a f ∧ cL t a f ≤ f
  | 0 => by simp [cL]
  | f + 1 => by
    have := cL_rg t a f
    simp only [cL]
    split <;> omega
theorem cL_all {t : Int → Int} {a : Int} : ∀ (f : Nat), cL t a f = f → ltOk t a f
  | 0, h => fun i i0 i1 => by omega
  | f + 1, h => fun i i0 i1 => by
    have r := cL_rg t a f
    simp only [cL] at h
    by_cases c : isA (t (a + f))
    · rw [if_pos c] at h
      by_cases z : i = f
      · rw [z]; exact c
      · exact cL_all f (by omega) i i0 (by omega)
    · rw [if_neg c] at h; omega
abbrev tkA (t : Int → Int) (n most p : Int) : Int := wsF t (lim n most) (lim n most - p).toNat p
abbrev tkE (t : Int → Int) (n most p : Int) : Int := enF t n (n - tkA t n most p).toNat (tkA t n most p)
abbrev tkF (t : Int → Int) (n most p : Int) : Nat := (tkE t n most p - tkA t n most p).toNat
abbrev sgC (c : Int) : Prop := c = 59 ∨ c = 60 ∨ c = 61 ∨ c = 62 ∨ c = 40 ∨ c = 41
def knd (t : Int → Int) (a : Int) (f : Nat) : Int := if cL t a f = f ∧ f ≤ 7 then 2 else if cL t a f = 0 ∧ f ≤ 3 then 3 else 1
/-- what comes from p on: its kind, its place, its end -/
def tkK (t : Int → Int) (n most p : Int) : Int := if lim n most ≤ tkA t n most p then (if most < n then 1 else 0) else if tkE t n most p = tkA t n most p then (if sgC (t (tkA t n most p)) then 4 else 1) else knd t (tkA t n most p) (tkF t n most p)
def tkP (t : Int → Int) (n most p : Int) : Int := if lim n most ≤ tkA t n most p then lim n most else tkA t n most p
def tkT (t : Int → Int) (n most p : Int) : Int := if tkE t n most p = tkA t n most p then tkA t n most p + 1 else tkE t n most p
def tkN (t : Int → Int) (n most p : Int) : Int := nm10 t (tkA t n most p) (tkF t n most p)
def tkS (t : Int → Int) (n most p : Int) : Int := t (tkA t n most p)
def tk32 (t : Int → Int) (n most p : Int) : Int := cod 32 t (tkA t n most p) (tkF t n most p)
def tk27 (t : Int → Int) (n most p : Int) : Int := cod 27 t (tkA t n most p) (tkF t n most p)
def tkW (t : Int → Int) (n most p : Int) : Int := if tkK t n most p = 2 then wid (tk32 t n most p) else 0
theorem knd_rg (t : Int → Int) (a : Int) (f : Nat) : 1 ≤ knd t a f ∧ knd t a f ≤ 3 := by unfold knd; split <;> (try split) <;> omega
theorem tkK_rg (t : Int → Int) (n most p : Int) : 0 ≤ tkK t n most p ∧ tkK t n most p ≤ 4 := by
  have := knd_rg t (tkA t n most p) (tkF t n most p)
  unfold tkK
  split
  · split <;> omega
  · split
    · split <;> omega
    · omega
/-- a token that goes on: where it lies -/
theorem tk_in {t : Int → Int} {n most p : Int} (h : 2 ≤ tkK t n most p) : p ≤ tkA t n most p ∧ tkA t n most p < lim n most ∧ tkA t n most p < tkT t n most p ∧ tkT t n most p ≤ n := by
  have a : p ≤ tkA t n most p ∧ tkA t n most p ≤ p + (lim n most - p).toNat := wsF_rg t (lim n most) (lim n most - p).toNat p
  have e : tkA t n most p ≤ tkE t n most p ∧ tkE t n most p ≤ tkA t n most p + (n - tkA t n most p).toNat := enF_rg t n (n - tkA t n most p).toNat (tkA t n most p)
  unfold tkK at h
  by_cases c : lim n most ≤ tkA t n most p
  · rw [if_pos c] at h; split at h <;> omega
  · have ln' : lim n most ≤ n := by unfold lim; split <;> omega
    refine ⟨a.1, by omega, ?_, ?_⟩
    · unfold tkT
      split
      · omega
      · have := e.1; omega
    · unfold tkT
      split
      · omega
      · have := e.2; omega
theorem tk_word {t : Int → Int} {n most p : Int} (h : tkK t n most p = 2) : ltOk t (tkA t n most p) (tkF t n most p) ∧ tkF t n most p ≤ 7 ∧ nmR (tk32 t n most p) (tk27 t n most p) ∧ tkE t n most p = tkT t n most p ∧ tkP t n most p = tkA t n most p := by
  unfold tkK at h
  by_cases c : lim n most ≤ tkA t n most p
  · rw [if_pos c] at h; split at h <;> omega
  · rw [if_neg c] at h
    by_cases c2 : tkE t n most p = tkA t n most p
    · rw [if_pos c2] at h; split at h <;> omega
    · rw [if_neg c2] at h
      unfold knd at h
      by_cases c3 : cL t (tkA t n most p) (tkF t n most p) = tkF t n most p ∧ tkF t n most p ≤ 7
      · have l := cL_all _ c3.1
        exact ⟨l, c3.2, ⟨t, tkA t n most p, tkF t n most p, c3.2, l, rfl, rfl⟩, by unfold tkT; rw [if_neg c2], by unfold tkP; rw [if_neg c]⟩
      · rw [if_neg c3] at h; split at h <;> omega
/-- the text of the class's reader -/
def TxI (w : sW) (t : Int → Int) (n most : Int) : Prop := (kd w 34 = 4 ∧ gv w 34 0 = 33 ∧ gv w 34 1 = n ∧ gv w 34 2 = most) ∧ (kd w 33 = 20 ∧ ln w 33 = 940) ∧ (0 ≤ n ∧ n ≤ 940) ∧ (0 ≤ most ∧ most ≤ 940) ∧ ∀ i, 0 ≤ i → i < 940 → gv w 33 i = t i ∧ 0 ≤ t i ∧ t i ≤ 255
theorem TxI.mf {w w' : sW} {t : Int → Int} {n most : Int} {P : Int → Int → Prop} (h : TxI w t n most) (g : Mf w w' P) (h1 : ¬ P 34 0 ∧ ¬ P 34 1 ∧ ¬ P 34 2) (h2 : ∀ j, ¬ P 33 j) : TxI w' t n most := by
  obtain ⟨⟨a1, a2, a3, a4⟩, ⟨a5, a6⟩, a7, a8, a9⟩ := h
  refine ⟨⟨by rw [g.kdE]; exact a1, by rw [g.gvE h1.1]; exact a2, by rw [g.gvE h1.2.1]; exact a3, by rw [g.gvE h1.2.2]; exact a4⟩, ⟨by rw [g.kdE]; exact a5, by rw [g.lnE]; exact a6⟩, a7, a8, fun i i0 i1 => ?_⟩
  rw [g.gvE (h2 i)]
  exact a9 i i0 i1
/-- the class's reader stands at what comes from p on -/
def RdI (w : sW) (t : Int → Int) (n most p : Int) : Prop := TxI w t n most ∧ gv w 34 4 = tkK t n most p ∧ gv w 34 5 = tkP t n most p ∧ (2 ≤ tkK t n most p → gv w 34 3 = tkT t n most p) ∧ (tkK t n most p = 2 → gv w 34 8 = tk32 t n most p) ∧ (tkK t n most p = 3 → gv w 34 6 = tkN t n most p) ∧ (tkK t n most p = 4 → gv w 34 7 = tkS t n most p) ∧ gv w 34 9 = tkW t n most p
theorem RdI.mf {w w' : sW} {t : Int → Int} {n most p : Int} {P : Int → Int → Prop} (h : RdI w t n most p) (g : Mf w w' P) (h1 : ∀ j, 0 ≤ j → j ≤ 9 → ¬ P 34 j) (h2 : ∀ j, ¬ P 33 j) : RdI w' t n most p := by
  obtain ⟨a1, a2, a3, a4, a5, a6, a7, a8⟩ := h
  refine ⟨a1.mf g ⟨h1 0 (by omega) (by omega), h1 1 (by omega) (by omega), h1 2 (by omega) (by omega)⟩ h2, ?_, ?_, ?_, ?_, ?_, ?_, ?_⟩
  · rw [g.gvE (h1 4 (by omega) (by omega))]; exact a2
  · rw [g.gvE (h1 5 (by omega) (by omega))]; exact a3
  · rw [g.gvE (h1 3 (by omega) (by omega))]; exact a4
  · rw [g.gvE (h1 8 (by omega) (by omega))]; exact a5
  · rw [g.gvE (h1 6 (by omega) (by omega))]; exact a6
  · rw [g.gvE (h1 7 (by omega) (by omega))]; exact a7
  · rw [g.gvE (h1 9 (by omega) (by omega))]; exact a8
section RD
variable {d : Nat} {w : sW} {C : sC}
theorem l_withCode (h : WordI w) {c : Int} : ∀ (f : Nat) (k : Int), k + f = 23 → 0 ≤ k → Rn C mX10_withCode (2, [some (lV c), none, some (iV k)], [], w) (some (rV (wsr c k f)), w)
  | 0, k, hf, h0 => by
    refine Rn.ret ?_
    rw [eX10_withCode_2, h.1.1, h.1.2, if_pos (by omega), if_neg (by omega)]
    rfl
  | f + 1, k, hf, h0 => by
    have q := h.2 k h0 (by omega)
    by_cases e : wc32 k = c
    · rw [show wsr c k (f + 1) = k + 1 by simp only [wsr]; rw [if_pos e]]
      refine Rn.ret ?_
      rw [eX10_withCode_2, h.1.1, h.1.2, if_pos (by omega), if_pos (by omega), if_pos (by omega), q.1, if_pos q.2.1, q.2.2.1, if_pos (cmp_eq.mpr e), if_pos (by omega)]
    · rw [show wsr c k (f + 1) = wsr c (k + 1) f by simp only [wsr]; rw [if_neg e]]
      refine Rn.cut ?_ (l_withCode h f (k + 1) (by omega) (by omega))
      rw [eX10_withCode_2, h.1.1, h.1.2, if_pos (by omega), if_pos (by omega), if_pos (by omega), q.1, if_pos q.2.1, q.2.2.1, if_neg (fun z => e (cmp_eq.mp z)), w32_eq (by omega) (by omega)]
theorem t_withCode (h : WordI w) (c : Int) : Ex pro (d + 1) 94 w [lV c] = some (some (rV (wid c)), w) := xX10_withCode (Rn.cut (eX10_withCode_0 _ _ _) (l_withCode h 23 0 (by omega) (by omega)))
theorem t_isSign (c : Int) : Ex pro (d + 1) 18 w [iV c] = some (some (iV (if sgC c then 1 else 0)), w) := by
  refine xX4_isSign (Rn.ret ?_)
  rw [eX4_isSign_0]
  unfold sgC
  grind
/-- letters and digits from a on, read up to q -/
def ScnI (w : sW) (t : Int → Int) (a q : Int) : Prop := gv w 34 3 = q ∧ (cL t a (q - a).toNat = q - a ∧ q - a ≤ 7 → gv w 34 8 = cod 32 t a (q - a).toNat) ∧ (cL t a (q - a).toNat = 0 ∧ q - a ≤ 3 → gv w 34 6 = nm10 t a (q - a).toNat)
theorem nm_rg {t : Int → Int} {a : Int} : ∀ (f : Nat), f ≤ 3 → (∀ i, 0 ≤ i → i < (f : Int) → isD (t (a + i))) → 0 ≤ nm10 t a f ∧ nm10 t a f ≤ 999
  | 0, h, g => by simp [nm10]
  | 1, h, g => by
    have := g 0 (by omega) (by omega)
    simp only [nm10]
    rw [show a + ((0 : Nat) : Int) = a + 0 by omega]
    omega
  | 2, h, g => by
    have g0 := g 0 (by omega) (by omega)
    have g1 := g 1 (by omega) (by omega)
    simp only [nm10]
    rw [show a + ((0 : Nat) : Int) = a + 0 by omega, show a + ((1 : Nat) : Int) = a + 1 by omega]
    omega
  | 3, h, g => by
    have g0 := g 0 (by omega) (by omega)
    have g1 := g 1 (by omega) (by omega)
    have g2 := g 2 (by omega) (by omega)
    simp only [nm10]
    rw [show a + ((0 : Nat) : Int) = a + 0 by omega, show a + ((1 : Nat) : Int) = a + 1 by omega, show a + ((2 : Nat) : Int) = a + 2 by omega]
    omega
  | f + 4, h, g => by omega
/-- where letters and digits have been seen -/
theorem ScnI.next {w w' : sW} {t : Int → Int} {a q v u : Int} (h : ScnI w t a q) (ha : a ≤ q) (hA : isA (t q) ∨ isD (t q)) (ho : ∀ i, 0 ≤ i → i < q - a → isA (t (a + i)) ∨ isD (t (a + i))) (h3 : gv w' 34 3 = q + 1) (h8 : gv w' 34 8 = if isA (t q) then w64 (w64 (gv w 34 8 * 32) + w32 (w32 (t q - 97) + 1)) else gv w 34 8) (h6 : gv w' 34 6 = if isA (t q) then gv w 34 6 else w32 (w32 (gv w 34 6 * 10) + w32 (t q - 48))) : ScnI w' t a (q + 1) := by
  obtain ⟨g1, g2, g3⟩ := h
  have e1 : (q + 1 - a).toNat = (q - a).toNat + 1 := by omega
  have e2 : a + ((q - a).toNat : Int) = q := by omega
  have r := cL_rg t a (q - a).toNat
  refine ⟨h3, fun z => ?_, fun z => ?_⟩
  · rw [e1] at z ⊢
    simp only [cL, cod] at z ⊢
    rw [e2] at z ⊢
    have c : isA (t q) := by
      by_cases c : isA (t q)
      · exact c
      · rw [if_neg c] at z; omega
    rw [if_pos c] at z h8
    have b := cod32_rg (q - a).toNat (cL_all (t := t) (a := a) (q - a).toNat (by omega))
    have b2 := p32 (f := (q - a).toNat) (by omega)
    rw [h8, g2 ⟨by omega, by omega⟩, w32_eq (x := t q - 97) (by omega) (by omega), w32_eq (x := t q - 97 + 1) (by omega) (by omega), w64_eq (x := cod 32 t a (q - a).toNat * 32) (by omega) (by omega), w64_eq (by omega) (by omega)]
    omega
  · rw [e1] at z ⊢
    simp only [cL, nm10] at z ⊢
    rw [e2] at z ⊢
    have c : ¬ isA (t q) := fun c => by rw [if_pos c] at z; omega
    rw [if_neg c] at z h6
    have nl : ∀ i, 0 ≤ i → i < ((q - a).toNat : Int) → isD (t (a + i)) := fun i i0 i1 => by
      rcases ho i i0 (by omega) with y | y
      · have key : ∀ (f : Nat), cL t a f = 0 → ∀ i, 0 ≤ i → i < (f : Int) → ¬ isA (t (a + i)) := fun f => by
          induction f with
          | zero => intro _ i i0 i1; omega
          | succ f ih =>
            intro hz i i0 i1
            have rr := cL_rg t a f
            simp only [cL] at hz
            by_cases cc : isA (t (a + f))
            · rw [if_pos cc] at hz; omega
            · rw [if_neg cc] at hz
              by_cases zz : i = f
              · rw [zz]; exact cc
              · exact ih (by omega) i i0 (by omega)
        exact absurd y (key (q - a).toNat (by omega) i i0 i1)
      · exact y
    have b := nm_rg (t := t) (a := a) (q - a).toNat (by omega) nl
    have dg : isD (t q) := by rcases hA with y | y; exact absurd y c; exact y
    rw [h6, g3 ⟨by omega, by omega⟩, w32_eq (x := t q - 48) (by omega) (by omega), w32_eq (x := nm10 t a (q - a).toNat * 10) (by omega) (by omega), w32_eq (by omega) (by omega)]
theorem l_scan {t : Int → Int} {n most a : Int} (h0 : 0 ≤ a) : ∀ (f : Nat) (q : Int) (w : sW), (q + f = n ∨ (f = 0 ∧ n ≤ q)) → a ≤ q → q ≤ n → TxI w t n most → ScnI w t a q → (∀ i, 0 ≤ i → i < q - a → isA (t (a + i)) ∨ isD (t (a + i))) → ∃ w', (∀ res, Rn C mX4_readLettersAndDigits (117, [some (rV 34), some (iV (cL t a (enF t n f q - a).toNat)), some (iV (enF t n f q - a - cL t a (enF t n f q - a).toNat)), none, none], [], w') res → Rn C mX4_readLettersAndDigits (14, [some (rV 34), some (iV (cL t a (q - a).toNat)), some (iV (q - a - cL t a (q - a).toNat)), none, none], [], w) res) ∧ TxI w' t n most ∧ ScnI w' t a (enF t n f q) ∧ Mf w w' (fun r j => r = 34 ∧ (j = 3 ∨ j = 6 ∨ j = 8))
  | 0, q, w, hf, ha, hq, hT, hS, ho => by
    refine ⟨w, fun res r => Rn.cut ?_ r, hT, hS, Mf.refl _ _⟩
    rw [eX4_readLettersAndDigits_14, if_pos hT.1.1, if_pos hT.1.1, hS.1, hT.1.2.2.1, if_neg (by omega)]
    rfl
  | f + 1, q, w, hf, ha, hq, hT, hS, ho => by
    have k := hT.1.1
    have n9 := hT.2.2.1
    have tq := hT.2.2.2.2 q (by omega) (by omega)
    have gd : kd w 33 = 20 ∧ 0 ≤ q ∧ q < ln w 33 := ⟨hT.2.1.1, by omega, by rw [hT.2.1.2]; omega⟩
    have r := cL_rg t a (q - a).toNat
    have e1 : (q + 1 - a).toNat = (q - a).toNat + 1 := by omega
    have e2 : a + ((q - a).toNat : Int) = q := by omega
    by_cases c : isA (t q) ∨ isD (t q)
    · have eE : enF t n (f + 1) q = enF t n f (q + 1) := by simp only [enF]; rw [if_pos ⟨by omega, c⟩]
      rw [eE]
      have ho' : ∀ i, 0 ≤ i → i < q + 1 - a → isA (t (a + i)) ∨ isD (t (a + i)) := fun i i0 i1 => by
        by_cases z : i = q - a
        · rw [z, show a + (q - a) = q by omega]; exact c
        · exact ho i i0 (by omega)
      by_cases cA : isA (t q)
      · have mf : Mf w (sv (sv w 34 8 (w64 (w64 (gv w 34 8 * 32) + w32 (w32 (t q - 97) + 1)))) 34 3 (q + 1)) (fun r j => r = 34 ∧ (j = 3 ∨ j = 6 ∨ j = 8)) := ((Mf.svI w 34 8 _).trans (Mf.svI _ 34 3 (q + 1))).mono (fun r j z => by omega)
        obtain ⟨w', b1, b2, b3, b4⟩ := l_scan (most := most) h0 f (q + 1) _ (by omega) (by omega) (by omega) (hT.mf mf (by omega) (fun j => by omega)) (hS.next (v := 0) (u := 0) ha c ho (gvSS _ _ _ _) (by rw [if_pos cA, gvS, if_neg (by omega), gvSS]) (by rw [if_pos cA, gvS, if_neg (by omega), gvS, if_neg (by omega)])) ho'
        refine ⟨w', fun res rr => Rn.cut ?_ (b1 res rr), b2, b3, mf.tr b4⟩
        have e3 : cL t a (q + 1 - a).toNat = cL t a (q - a).toNat + 1 := by rw [e1]; simp only [cL]; rw [e2, if_pos cA]
        have g3 : gv (sv w 34 8 (w64 (w64 (gv w 34 8 * 32) + w32 (w32 (t q - 97) + 1)))) 34 3 = q := by rw [gvS, if_neg (by omega)]; exact hS.1
        have k1 : kd (sv w 34 8 (w64 (w64 (gv w 34 8 * 32) + w32 (w32 (t q - 97) + 1)))) 34 = 4 := k
        rw [eX4_readLettersAndDigits_14, if_pos k, if_pos k, hS.1, hT.1.2.2.1, if_pos (by omega), if_pos k, if_pos k, hT.1.2.1, if_pos gd, tq.1, if_neg (by omega), if_neg (by omega), if_pos k, if_pos k, wl_eq, if_pos k1, if_pos k1, g3, wl_eq, w32_eq (x := q + 1) (by omega) (by omega), w32_eq (x := cL t a (q - a).toNat + 1) (by omega) (by omega), e3, show q + 1 - a - (cL t a (q - a).toNat + 1) = q - a - cL t a (q - a).toNat by omega]
      · have cD : isD (t q) := by rcases c with y | y; exact absurd y cA; exact y
        have mf : Mf w (sv (sv w 34 6 (w32 (w32 (gv w 34 6 * 10) + w32 (t q - 48)))) 34 3 (q + 1)) (fun r j => r = 34 ∧ (j = 3 ∨ j = 6 ∨ j = 8)) := ((Mf.svI w 34 6 _).trans (Mf.svI _ 34 3 (q + 1))).mono (fun r j z => by omega)
        obtain ⟨w', b1, b2, b3, b4⟩ := l_scan (most := most) h0 f (q + 1) _ (by omega) (by omega) (by omega) (hT.mf mf (by omega) (fun j => by omega)) (hS.next (v := 0) (u := 0) ha c ho (gvSS _ _ _ _) (by rw [if_neg cA, gvS, if_neg (by omega), gvS, if_neg (by omega)]) (by rw [if_neg cA, gvS, if_neg (by omega), gvSS])) ho'
        refine ⟨w', fun res rr => Rn.cut ?_ (b1 res rr), b2, b3, mf.tr b4⟩
        have e3 : cL t a (q + 1 - a).toNat = cL t a (q - a).toNat := by rw [e1]; simp only [cL]; rw [e2, if_neg cA, Int.add_zero]
        have g3 : gv (sv w 34 6 (w32 (w32 (gv w 34 6 * 10) + w32 (t q - 48)))) 34 3 = q := by rw [gvS, if_neg (by omega)]; exact hS.1
        have k1 : kd (sv w 34 6 (w32 (w32 (gv w 34 6 * 10) + w32 (t q - 48)))) 34 = 4 := k
        rw [eX4_readLettersAndDigits_14, if_pos k, if_pos k, hS.1, hT.1.2.2.1, if_pos (by omega), if_pos k, if_pos k, hT.1.2.1, if_pos gd, tq.1, if_pos (by omega), if_neg (by omega), if_neg (by omega), if_pos k, if_pos k, wl_eq, if_pos k1, if_pos k1, g3, wl_eq, w32_eq (x := q + 1) (by omega) (by omega), w32_eq (x := q - a - cL t a (q - a).toNat + 1) (by omega) (by omega), e3, show q + 1 - a - cL t a (q - a).toNat = q - a - cL t a (q - a).toNat + 1 by omega]
    · have eE : enF t n (f + 1) q = q := by simp only [enF]; rw [if_neg (fun z => c z.2)]
      rw [eE]
      refine ⟨w, fun res rr => Rn.cut ?_ rr, hT, hS, Mf.refl _ _⟩
      rw [eX4_readLettersAndDigits_14, if_pos k, if_pos k, hS.1, hT.1.2.2.1, if_pos (by omega), if_pos k, if_pos k, hT.1.2.1, if_pos gd, tq.1]
      by_cases c1 : t q < 97
      · rw [if_pos c1]
        by_cases c2 : t q < 48
        · rw [if_pos c2]
        · rw [if_neg c2, if_pos (by omega)]
      · rw [if_neg c1, if_pos (by omega), if_neg (by omega), if_pos (by omega)]
end RD
