/-! ===== fractions: both make the same bits ===== -/
theorem w64_eq {x : Int} (h1 : -9223372036854775808 ≤ x) (h2 : x < 9223372036854775808) : w64 x = x := by unfold w64; omega
theorem cmp_lt {x y : Int} : cmpL x y < 0 ↔ x < y := by unfold cmpL; split <;> (try split) <;> omega
theorem cmp_gt {x y : Int} : 0 < cmpL x y ↔ y < x := by unfold cmpL; split <;> (try split) <;> omega
theorem cmp_eq {x y : Int} : cmpL x y = 0 ↔ x = y := by unfold cmpL; split <;> (try split) <;> omega
/-- the unit doubled as long as it goes twice into a -/
def upF (a : Int) : Nat → Int → Int → Int × Int
  | 0, b, e => (b, e)
  | f + 1, b, e => if a < 2 * b then (b, e) else upF a f (b * 2) (e + 1)
/-- a doubled as long as it is less than the unit -/
def dnF (b : Int) : Nat → Int → Int → Int × Int
  | 0, a, e => (a, e)
  | f + 1, a, e => if a < b then dnF b f (a * 2) (e - 1) else (a, e)
/-- f further bits of a quotient -/
def frF (b : Int) : Nat → Int → Int → Int × Int
  | 0, q, s => (q, s)
  | f + 1, q, s => if s * 2 < b then frF b f (q * 2) (s * 2) else frF b f (q * 2 + 1) (s * 2 - b)
theorem p2pos (f : Nat) : (1 : Int) ≤ 2 ^ f := by
  have e : (2 : Int) ^ f = ((2 ^ f : Nat) : Int) := by push_cast; rfl
  have := Nat.one_le_two_pow (n := f)
  omega
theorem upF_rg {a : Int} (ha : a ≤ 1048576) : ∀ (f : Nat) (b e : Int), 0 < b → b ≤ 1048576 → a < 2 ^ (f + 1) * b → (0 < (upF a f b e).1 ∧ (upF a f b e).1 ≤ 1048576) ∧ a < 2 * (upF a f b e).1 ∧ (e ≤ (upF a f b e).2 ∧ (upF a f b e).2 ≤ e + f)
  | 0, b, e, h0, h1, h2 => by
    simp only [upF]
    omega
  | f + 1, b, e, h0, h1, h2 => by
    simp only [upF]
    split
    · simp only []
      omega
    · have := upF_rg ha f (b * 2) (e + 1) (by omega) (by omega) (by rw [Int.pow_succ] at h2; grind)
      omega
theorem dnF_rg {b : Int} (hb : b ≤ 1048576) : ∀ (f : Nat) (a e : Int), 0 < a → b ≤ 2 ^ f * a → a < 2 * b → (b ≤ (dnF b f a e).1 ∧ (dnF b f a e).1 < 2 * b) ∧ (e - f ≤ (dnF b f a e).2 ∧ (dnF b f a e).2 ≤ e)
  | 0, a, e, h0, h1, h2 => by
    simp only [dnF]
    omega
  | f + 1, a, e, h0, h1, h2 => by
    simp only [dnF]
    split
    · have := dnF_rg hb f (a * 2) (e - 1) (by omega) (by rw [Int.pow_succ] at h1; grind) (by omega)
      omega
    · simp only []
      omega
theorem frF_rg {b : Int} : ∀ (f : Nat) (q s : Int), 0 ≤ q → 0 ≤ s → s < b → (2 ^ f * q ≤ (frF b f q s).1 ∧ (frF b f q s).1 + 1 ≤ 2 ^ f * (q + 1)) ∧ 0 ≤ (frF b f q s).2 ∧ (frF b f q s).2 < b
  | 0, q, s, h0, h1, h2 => by
    simp only [frF]
    omega
  | f + 1, q, s, h0, h1, h2 => by
    have p := p2pos f
    simp only [frF]
    rw [Int.pow_succ]
    split
    · have := frF_rg (b := b) f (q * 2) (s * 2) (by omega) (by omega) (by omega)
      grind
    · have := frF_rg (b := b) f (q * 2 + 1) (s * 2 - b) (by omega) (by omega) (by omega)
      grind
def fB (a b : Int) : Int := (upF a 40 b 0).1
def fA (a b : Int) : Int := (dnF (fB a b) 40 a (upF a 40 b 0).2).1
def fE (a b : Int) : Int := (dnF (fB a b) 40 a (upF a 40 b 0).2).2
def rdF (b : Int) (p : Int × Int) : Int := if b < 2 * p.2 ∨ (2 * p.2 = b ∧ p.1 % 2 = 1) then p.1 + 1 else p.1
theorem rdF_y {b q s : Int} (h : b < 2 * s ∨ (2 * s = b ∧ q % 2 = 1)) : rdF b (q, s) = q + 1 := if_pos h
theorem rdF_n {b q s : Int} (h : ¬ (b < 2 * s ∨ (2 * s = b ∧ q % 2 = 1))) : rdF b (q, s) = q := if_neg h
def fQ (a b : Int) (f : Nat) : Int := rdF (fB a b) (frF (fB a b) f 1 (fA a b - fB a b))
theorem f_rg {a b : Int} (ha : 0 < a ∧ a ≤ 1048576) (hb : 0 < b ∧ b ≤ 1048576) : (0 < fB a b ∧ fB a b ≤ 1048576) ∧ (fB a b ≤ fA a b ∧ fA a b < 2 * fB a b) ∧ (-40 ≤ fE a b ∧ fE a b ≤ 40) ∧ (0 ≤ (upF a 40 b 0).2 ∧ (upF a 40 b 0).2 ≤ 40) ∧ a < 2 * fB a b := by
  have u := upF_rg (a := a) ha.2 40 b 0 hb.1 hb.2 (by omega)
  have d := dnF_rg (b := fB a b) u.1.2 40 a (upF a 40 b 0).2 ha.1 (by have := u.1; unfold fB at *; omega) u.2.1
  unfold fA fE
  exact ⟨u.1, d.1, by omega, by omega, u.2.1⟩
theorem fQ_rg {a b : Int} (ha : 0 < a ∧ a ≤ 1048576) (hb : 0 < b ∧ b ≤ 1048576) (f : Nat) : 2 ^ f ≤ fQ a b f ∧ fQ a b f ≤ 2 ^ f * 2 := by
  obtain ⟨r1, r2, r3⟩ := f_rg ha hb
  have := frF_rg (b := fB a b) f 1 (fA a b - fB a b) (by omega) (by omega) (by omega)
  unfold fQ rdF
  split <;> omega
section FR
variable {d : Nat} {w : sW} {m : Int} {C : sC}
theorem l_asUp {g bi a : Int} {res : Option sV × sW} (ha : a ≤ 1048576) : ∀ (f : Nat) (b e k : Int), k + f = 40 → 0 ≤ k → 0 < b → b ≤ 1048576 → (0 ≤ e ∧ e ≤ k) → Rn C mX2_asBits (65, [none, none, none, none, some (iV g), some (iV bi), some (lV a), none, some (lV (upF a f b e).1), none, some (iV (upF a f b e).2), some (iV 0), none, none], [], w) res → Rn C mX2_asBits (26, [none, none, none, none, some (iV g), some (iV bi), some (lV a), none, some (lV b), none, some (iV e), some (iV k), none, none], [], w) res
  | 0, b, e, k, hk, hk0, hb, hb1, he, r => by
    refine Rn.cut ?_ r
    rw [eX2_asBits_26, if_neg (by omega)]
    rfl
  | f + 1, b, e, k, hk, hk0, hb, hb1, he, r => by
    by_cases c : a < 2 * b
    · refine Rn.cut ?_ r
      rw [eX2_asBits_26, if_pos (by omega), w64_eq (x := 2 * b) (by omega) (by omega), if_pos (cmp_lt.mpr c)]
      simp only [upF]
      rw [if_pos c]
    · have e1 : upF a (f + 1) b e = upF a f (b * 2) (e + 1) := by simp only [upF]; rw [if_neg c]
      rw [e1] at r
      refine Rn.cut ?_ (l_asUp ha f (b * 2) (e + 1) (k + 1) (by omega) (by omega) (by omega) (by omega) (by omega) r)
      rw [eX2_asBits_26, if_pos (by omega), w64_eq (x := 2 * b) (by omega) (by omega), if_neg (fun z => c (cmp_lt.mp z)), w64_eq (x := b * 2) (by omega) (by omega), w32_eq (x := e + 1) (by omega) (by omega), w32_eq (x := k + 1) (by omega) (by omega)]
theorem l_asDn {g bi b : Int} {res : Option sV × sW} (hb : b ≤ 1048576) : ∀ (f : Nat) (a e k : Int), k + f = 40 → 0 ≤ k → 0 < a → a < 2 * b → (-k ≤ e ∧ e ≤ 40) → Rn C mX2_asBits (103, [none, none, none, none, some (iV g), some (iV bi), some (lV (dnF b f a e).1), none, some (lV b), none, some (iV (dnF b f a e).2), some (lV 0), none, some (iV 0)], [], w) res → Rn C mX2_asBits (65, [none, none, none, none, some (iV g), some (iV bi), some (lV a), none, some (lV b), none, some (iV e), some (iV k), none, none], [], w) res
  | 0, a, e, k, hk, hk0, ha, ha1, he, r => by
    refine Rn.cut ?_ r
    rw [eX2_asBits_65, if_neg (by omega)]
    rfl
  | f + 1, a, e, k, hk, hk0, ha, ha1, he, r => by
    by_cases c : a < b
    · have e1 : dnF b (f + 1) a e = dnF b f (a * 2) (e - 1) := by simp only [dnF]; rw [if_pos c]
      rw [e1] at r
      refine Rn.cut ?_ (l_asDn hb f (a * 2) (e - 1) (k + 1) (by omega) (by omega) (by omega) (by omega) (by omega) r)
      rw [eX2_asBits_65, if_pos (by omega), if_pos (cmp_lt.mpr c), w64_eq (x := a * 2) (by omega) (by omega), w32_eq (x := e + -1) (by omega) (by omega), w32_eq (x := k + 1) (by omega) (by omega)]
      rfl
    · refine Rn.cut ?_ r
      rw [eX2_asBits_65, if_pos (by omega), if_neg (fun z => c (cmp_lt.mp z))]
      simp only [dnF]
      rw [if_neg c]
theorem l_asFr {g bi b e : Int} (hb : b ≤ 1048576) (hg : (g = 24 ∧ bi = 127) ∨ (g = 53 ∧ bi = 1023)) (he : -40 ≤ e ∧ e ≤ 40) : ∀ (f : Nat) (q s k : Int), k + f = g → 1 ≤ k → 0 ≤ q → 0 ≤ s → s < b → 2 ^ f * (q + 1) ≤ 9007199254740992 → Rn C mX2_asBits (103, [none, none, none, none, some (iV g), some (iV bi), some (lV (s * 2)), none, some (lV b), none, some (iV e), some (lV q), none, some (iV k)], [], w) (some (lV ((e + bi - 1) * 2 ^ (g - 1).toNat + rdF b (frF b f q s))), w)
  | 0, q, s, k, hk, hk1, hq, hs, hsb, hB => by
    have e2 : (e + bi - 1) * 2 ^ (g - 1).toNat < 9214364837600034816 ∧ 0 ≤ (e + bi - 1) * 2 ^ (g - 1).toNat := by
      rcases hg with ⟨z1, z2⟩ | ⟨z1, z2⟩
      · rw [z1, z2, show ((24 : Int) - 1).toNat = 23 from rfl]; omega
      · rw [z1, z2, show ((53 : Int) - 1).toNat = 52 from rfl]; omega
    have e3 := z_lshl (x := e + bi - 1) (k := g - 1) (by omega) (by omega) (by omega)
    refine Rn.ret ?_
    rw [eX2_asBits_103, if_neg (by omega), w32_eq (x := e + bi) (by omega) (by omega), w32_eq (x := e + bi - 1) (by omega) (by omega), w32_eq (x := g - 1) (by omega) (by omega), e3, w64_eq (x := q + 1) (by omega) (by omega), w64_eq (by omega) (by omega), w64_eq (by omega) (by omega), z_land1 hq (by omega)]
    have e4 : frF b 0 q s = (q, s) := rfl
    rw [e4]
    by_cases c : b < s * 2
    · rw [if_pos (cmp_gt.mpr c), rdF_y (by omega)]
    · rw [if_neg (fun z => c (cmp_gt.mp z))]
      by_cases c2 : s * 2 = b
      · rw [if_pos (cmp_eq.mpr c2)]
        by_cases c3 : q % 2 = 1
        · rw [if_pos (cmp_eq.mpr c3), rdF_y (by omega)]
        · rw [if_neg (fun z => c3 (cmp_eq.mp z)), rdF_n (by omega)]
      · rw [if_neg (fun z => c2 (cmp_eq.mp z)), rdF_n (by omega)]
  | f + 1, q, s, k, hk, hk1, hq, hs, hsb, hB => by
    have p := p2pos f
    rw [Int.pow_succ] at hB
    have hq2 : q + 1 ≤ 9007199254740992 := by
      have : (q + 1) * 1 ≤ (q + 1) * (2 ^ f * 2) := Int.mul_le_mul_of_nonneg_left (by omega) (by omega)
      rw [Int.mul_comm (q + 1) (2 ^ f * 2)] at this
      omega
    by_cases c : s * 2 < b
    · have e1 : frF b (f + 1) q s = frF b f (q * 2) (s * 2) := by simp only [frF]; rw [if_pos c]
      have hB2 : 2 ^ f * (q * 2 + 1) ≤ 9007199254740992 := by
        have : 2 ^ f * (q * 2 + 1) ≤ 2 ^ f * (2 * (q + 1)) := Int.mul_le_mul_of_nonneg_left (by omega) (by omega)
        grind
      rw [e1]
      refine Rn.cut ?_ (l_asFr hb hg he f (q * 2) (s * 2) (k + 1) (by omega) (by omega) (by omega) (by omega) (by omega) hB2)
      rw [eX2_asBits_103, if_pos (by omega), if_pos (cmp_lt.mpr c), w64_eq (x := s * 2 * 2) (by omega) (by omega), w64_eq (x := q * 2) (by omega) (by omega), w32_eq (x := k + 1) (by omega) (by omega)]
    · have e1 : frF b (f + 1) q s = frF b f (q * 2 + 1) (s * 2 - b) := by simp only [frF]; rw [if_neg c]
      have hB2 : 2 ^ f * (q * 2 + 1 + 1) ≤ 9007199254740992 := by grind
      rw [e1]
      refine Rn.cut ?_ (l_asFr hb hg he f (q * 2 + 1) (s * 2 - b) (k + 1) (by omega) (by omega) (by omega) (by omega) (by omega) hB2)
      rw [eX2_asBits_103, if_pos (by omega), if_neg (fun z => c (cmp_lt.mp z)), w64_eq (x := s * 2 - b) (by omega) (by omega), w64_eq (x := (s * 2 - b) * 2) (by omega) (by omega), w64_eq (x := q * 2) (by omega) (by omega), w64_eq (x := q * 2 + 1) (by omega) (by omega), w32_eq (x := k + 1) (by omega) (by omega)]
theorem t_asBits {a b g bi : Int} (ha : 0 ≤ a ∧ a ≤ 1048576) (hb : 0 < b ∧ b ≤ 1048576) (hg : (g = 24 ∧ bi = 127) ∨ (g = 53 ∧ bi = 1023)) : Ex pro (d + 1) 9 w [lV a, lV b, iV g, iV bi] = some (some (lV (if a = 0 then 0 else (fE a b + bi - 1) * 2 ^ (g - 1).toNat + fQ a b (g - 1).toNat)), w) := by
  by_cases c : a = 0
  · rw [if_pos c]
    refine xX2_asBits (Rn.ret ?_)
    rw [eX2_asBits_0, if_neg (fun z => by have := cmp_gt.mp z; omega)]
  · rw [if_neg c]
    obtain ⟨r1, r2, r3, r4, r5⟩ := f_rg (a := a) (b := b) (by omega) hb
    refine xX2_asBits (Rn.cut (c' := (26, [none, none, none, none, some (iV g), some (iV bi), some (lV a), none, some (lV b), none, some (iV 0), some (iV 0), none, none], [], w)) ?_ ?_)
    · rw [eX2_asBits_0, if_pos (cmp_gt.mpr (by omega)), if_pos (cmp_gt.mpr hb.1)]
    · refine l_asUp ha.2 40 b 0 0 (by omega) (by omega) hb.1 hb.2 (by omega) ?_
      refine l_asDn r1.2 40 a _ 0 (by omega) (by omega) (by omega) r5 (by omega) ?_
      show Rn (Ex pro d) mX2_asBits (103, [none, none, none, none, some (iV g), some (iV bi), some (lV (fA a b)), none, some (lV (fB a b)), none, some (iV (fE a b)), some (lV 0), none, some (iV 0)], [], w) _
      have l := l_asFr (w := w) (C := Ex pro d) (b := fB a b) (e := fE a b) r1.2 hg r3 (g - 1).toNat 1 (fA a b - fB a b) 1 (by omega) (by omega) (by omega) (by omega) (by omega) (by
        rcases hg with ⟨z1, z2⟩ | ⟨z1, z2⟩
        · rw [z1]; decide
        · rw [z1]; decide)
      refine Rn.cut ?_ l
      rw [eX2_asBits_103, if_pos (by omega), if_neg (fun z => by have := cmp_lt.mp z; omega), w64_eq (x := fA a b - fB a b) (by omega) (by omega), w64_eq (x := (fA a b - fB a b) * 2) (by omega) (by omega)]
      rfl
end FR
