/-! ===== fractions of the reference ===== -/
theorem gvSS (w : sW) (r k v : Int) : gv (sv w r k v) r k = v := by rw [gvS, if_pos ⟨rfl, rfl⟩]
section FR2
variable {d : Nat} {w : sW} {m : Int} {A : Rm} {C : sC}
theorem l_mUp (h : kd w m = 10) {g a : Int} {res : Option sV × sW} (ha : a ≤ 1048576) : ∀ (f : Nat) (b e : Int), 0 < b → b ≤ 1048576 → (0 ≤ e ∧ e + f ≤ 100) → a < 2 ^ (f + 1) * b → Rn C mX12_firstBits (46, [some (rV m), none, none, some (iV g), some (lV a), none, some (lV (upF a f b e).1), none, none, none, none, none, none], [], sv w m 26 (upF a f b e).2) res → Rn C mX12_firstBits (13, [some (rV m), none, none, some (iV g), some (lV a), none, some (lV b), none, none, none, none, none, none], [], sv w m 26 e) res
  | 0, b, e, hb, hb1, he, hf, r => by
    refine Rn.cut ?_ r
    rw [eX12_firstBits_13, w64_eq (x := 2 * b) (by omega) (by omega), if_pos (cmp_lt.mpr (by omega))]
    rfl
  | f + 1, b, e, hb, hb1, he, hf, r => by
    have k : kd (sv w m 26 e) m = 10 := h
    by_cases c : a < 2 * b
    · refine Rn.cut ?_ r
      rw [eX12_firstBits_13, w64_eq (x := 2 * b) (by omega) (by omega), if_pos (cmp_lt.mpr c)]
      simp only [upF]
      rw [if_pos c]
    · have e1 : upF a (f + 1) b e = upF a f (b * 2) (e + 1) := by simp only [upF]; rw [if_neg c]
      rw [e1] at r
      refine Rn.cut ?_ (l_mUp h ha f (b * 2) (e + 1) (by omega) (by omega) (by omega) (by rw [Int.pow_succ] at hf; grind) r)
      rw [eX12_firstBits_13, w64_eq (x := 2 * b) (by omega) (by omega), if_neg (fun z => c (cmp_lt.mp z)), if_pos k, if_pos k, gvSS, w32_eq (x := e + 1) (by omega) (by omega), wl_eq, sv_sv, w64_eq (x := b * 2) (by omega) (by omega)]
theorem l_mDn (h : kd w m = 10) {g b : Int} {res : Option sV × sW} (hb : b ≤ 1048576) : ∀ (f : Nat) (a e : Int), 0 < a → a < 2 * b → (-100 ≤ e - f ∧ e ≤ 100) → b ≤ 2 ^ f * a → Rn C mX12_firstBits (88, [some (rV m), none, none, some (iV g), none, none, some (lV b), none, some (lV 1), none, some (lV ((dnF b f a e).1 - b)), none, some (iV 1)], [], sv w m 26 (dnF b f a e).2) res → Rn C mX12_firstBits (46, [some (rV m), none, none, some (iV g), some (lV a), none, some (lV b), none, none, none, none, none, none], [], sv w m 26 e) res
  | 0, a, e, ha, ha1, he, hf, r => by
    refine Rn.cut ?_ r
    rw [eX12_firstBits_46, if_neg (fun z => by have := cmp_lt.mp z; omega), w64_eq (x := a - b) (by omega) (by omega)]
    rfl
  | f + 1, a, e, ha, ha1, he, hf, r => by
    have k : kd (sv w m 26 e) m = 10 := h
    by_cases c : a < b
    · have e1 : dnF b (f + 1) a e = dnF b f (a * 2) (e - 1) := by simp only [dnF]; rw [if_pos c]
      rw [e1] at r
      refine Rn.cut ?_ (l_mDn h hb f (a * 2) (e - 1) (by omega) (by omega) (by omega) (by rw [Int.pow_succ] at hf; grind) r)
      rw [eX12_firstBits_46, if_pos (cmp_lt.mpr c), if_pos k, if_pos k, gvSS, w32_eq (x := e - 1) (by omega) (by omega), wl_eq, sv_sv, w64_eq (x := a * 2) (by omega) (by omega)]
    · refine Rn.cut ?_ r
      rw [eX12_firstBits_46, if_neg (fun z => c (cmp_lt.mp z)), w64_eq (x := a - b) (by omega) (by omega)]
      simp only [dnF]
      rw [if_neg c]
theorem l_mFr (h : kd w m = 10) {g b e : Int} (hb : b ≤ 1048576) (hg : g = 24 ∨ g = 53) (he : -100 ≤ e ∧ e ≤ 100) : ∀ (f : Nat) (q s k : Int), k + f = g → 1 ≤ k → 0 ≤ q → 0 ≤ s → s < b → 2 ^ f * (q + 1) ≤ 9007199254740992 → Rn C mX12_firstBits (88, [some (rV m), none, none, some (iV g), none, none, some (lV b), none, some (lV q), none, some (lV s), none, some (iV k)], [], sv w m 26 e) (some (lV (if rdF b (frF b f q s) < 2 ^ g.toNat then rdF b (frF b f q s) else rdF b (frF b f q s) / 2)), sv w m 26 (if rdF b (frF b f q s) < 2 ^ g.toNat then e else e + 1))
  | 0, q, s, k, hk, hk1, hq, hs, hsb, hB => by
    have kk : kd (sv w m 26 e) m = 10 := h
    have e2 : f_lshl 1 g = 2 ^ g.toNat := by
      rcases hg with z | z
      · rw [z, z_lshl (by decide) (by decide) (by decide)]; decide
      · rw [z, z_lshl (by decide) (by decide) (by decide)]; decide
    have md : Int.tmod q 2 = q % 2 := Int.tmod_eq_emod_of_nonneg hq
    refine Rn.ret ?_
    rw [eX12_firstBits_88, if_neg (by omega), w64_eq (x := 2 * s) (by omega) (by omega), w64_eq (x := q + 1) (by omega) (by omega), e2, Int.tdiv_eq_ediv_of_nonneg (show 0 ≤ q + 1 by omega), Int.tdiv_eq_ediv_of_nonneg hq, w64_eq (x := (q + 1) / 2) (by omega) (by omega), w64_eq (x := q / 2) (by omega) (by omega), md, gvSS, w32_eq (x := e + 1) (by omega) (by omega)]
    simp only [wl_eq, sv_sv, cmp_lt, cmp_gt, cmp_eq, kk, if_true, show ¬ (2 : Int) = 0 by decide, if_false]
    have e4 : frF b 0 q s = (q, s) := rfl
    rw [e4]
    by_cases c : b < 2 * s
    · rw [if_pos c, rdF_y (Or.inl c)]
      by_cases z : q + 1 < 2 ^ g.toNat
      · rw [if_pos z, if_pos z, if_pos z]
      · rw [if_neg z, if_neg z, if_neg z]
    · rw [if_neg c]
      by_cases c2 : 2 * s = b
      · rw [if_pos c2]
        by_cases c3 : q % 2 = 1
        · rw [if_pos c3, rdF_y (Or.inr ⟨c2, c3⟩)]
          by_cases z : q + 1 < 2 ^ g.toNat
          · rw [if_pos z, if_pos z, if_pos z]
          · rw [if_neg z, if_neg z, if_neg z]
        · rw [if_neg c3, rdF_n (by omega)]
          by_cases z : q < 2 ^ g.toNat
          · rw [if_pos z, if_pos z, if_pos z]
          · rw [if_neg z, if_neg z, if_neg z]
      · rw [if_neg c2, rdF_n (by omega)]
        by_cases z : q < 2 ^ g.toNat
        · rw [if_pos z, if_pos z, if_pos z]
        · rw [if_neg z, if_neg z, if_neg z]
  | f + 1, q, s, k, hk, hk1, hq, hs, hsb, hB => by
    have p := p2pos f
    rw [Int.pow_succ] at hB
    have hq2 : q + 1 ≤ 9007199254740992 := by
      have : (q + 1) * 1 ≤ (q + 1) * (2 ^ f * 2) := Int.mul_le_mul_of_nonneg_left (by omega) (by omega)
      rw [Int.mul_comm (q + 1) (2 ^ f * 2)] at this
      omega
    by_cases c : s * 2 < b
    · have e1 : frF b (f + 1) q s = frF b f (q * 2) (s * 2) := by simp only [frF]; rw [if_pos c]
      have hB2 : 2 ^ f * (q * 2 + 1) ≤ 9007199254740992 := by
        have : 2 ^ f * (q * 2 + 1) ≤ 2 ^ f * (2 * (q + 1)) := Int.mul_le_mul_of_nonneg_left (by omega) (by omega)
        grind
      rw [e1]
      refine Rn.cut ?_ (l_mFr h hb hg he f (q * 2) (s * 2) (k + 1) (by omega) (by omega) (by omega) (by omega) (by omega) hB2)
      rw [eX12_firstBits_88, if_pos (by omega), w64_eq (x := s * 2) (by omega) (by omega), if_pos (cmp_lt.mpr c), w64_eq (x := q * 2) (by omega) (by omega), w32_eq (x := k + 1) (by omega) (by omega)]
    · have e1 : frF b (f + 1) q s = frF b f (q * 2 + 1) (s * 2 - b) := by simp only [frF]; rw [if_neg c]
      have hB2 : 2 ^ f * (q * 2 + 1 + 1) ≤ 9007199254740992 := by grind
      rw [e1]
      refine Rn.cut ?_ (l_mFr h hb hg he f (q * 2 + 1) (s * 2 - b) (k + 1) (by omega) (by omega) (by omega) (by omega) (by omega) hB2)
      rw [eX12_firstBits_88, if_pos (by omega), w64_eq (x := s * 2) (by omega) (by omega), if_neg (fun z => c (cmp_lt.mp z)), w64_eq (x := s * 2 - b) (by omega) (by omega), w64_eq (x := q * 2) (by omega) (by omega), w64_eq (x := q * 2 + 1) (by omega) (by omega), w32_eq (x := k + 1) (by omega) (by omega)]
theorem o_firstBits (h : kd w m = 10) {a b g : Int} (ha : 0 < a ∧ a ≤ 1048576) (hb : 0 < b ∧ b ≤ 1048576) (hg : g = 24 ∨ g = 53) : Ex pro (d + 1) 208 w [rV m, iV a, iV b, iV g] = some (some (lV (if fQ a b (g - 1).toNat < 2 ^ g.toNat then fQ a b (g - 1).toNat else fQ a b (g - 1).toNat / 2)), sv w m 26 (if fQ a b (g - 1).toNat < 2 ^ g.toNat then fE a b else fE a b + 1)) := by
  obtain ⟨r1, r2, r3, r4, r5⟩ := f_rg (a := a) (b := b) ha hb
  refine xX12_firstBits (Rn.cut (c' := (13, [some (rV m), none, none, some (iV g), some (lV a), none, some (lV b), none, none, none, none, none, none], [], sv w m 26 0)) ?_ ?_)
  · rw [eX12_firstBits_0, if_pos h, wl_eq]
  · refine l_mUp h ha.2 40 b 0 hb.1 hb.2 (by omega) (by omega) ?_
    refine l_mDn h r1.2 40 a _ ha.1 r5 (by omega) (by have := r1.2; omega) ?_
    exact l_mFr h r1.2 hg (by show -100 ≤ fE a b ∧ fE a b ≤ 100; omega) (g - 1).toNat 1 (fA a b - fB a b) 1 (by omega) (by omega) (by omega) (by omega) (by omega) (by
      rcases hg with z | z
      · rw [z]; decide
      · rw [z]; decide)
/-- the bits of a fraction -/
def ftF (a b : Int) : Int := if a = 0 then 0 else (fE a b + 126) * 8388608 + fQ a b 23
def dbF (a b : Int) : Int := if a = 0 then 0 else (fE a b + 1022) * 4503599627370496 + fQ a b 52
theorem o_asFloat (h : kd w m = 10) {a b : Int} (ha : 0 ≤ a ∧ a ≤ 1048576) (hb : 0 < b ∧ b ≤ 1048576) : ∃ v, Ex pro (d + 2) 209 w [rV m, iV a, iV b] = some (some (iV (ftF a b)), if a = 0 then w else sv w m 26 v) := by
  unfold ftF
  by_cases c : a = 0
  · refine ⟨0, ?_⟩
    rw [if_pos c, if_pos c]
    refine xX12_asFloat (Rn.ret ?_)
    rw [eX12_asFloat_0, if_pos c]
  · refine ⟨if fQ a b 23 < 16777216 then fE a b else fE a b + 1, ?_⟩
    obtain ⟨r1, r2, r3, r4, r5⟩ := f_rg (a := a) (b := b) (by omega) hb
    have q := fQ_rg (a := a) (b := b) (by omega) hb 23
    have e := o_firstBits (d := d) h (a := a) (b := b) (g := 24) (by omega) hb (by omega)
    rw [show ((24 : Int) - 1).toNat = 23 from rfl, show (2 : Int) ^ (24 : Int).toNat = 16777216 by decide] at e
    rw [if_neg c, if_neg c]
    refine xX12_asFloat (Rn.ret ?_)
    rw [eX12_asFloat_0, if_neg c, if_pos h, e]
    simp only [bL]
    rw [kdS, if_pos h, gvSS]
    have p23 : (2 : Int) ^ (23 : Int).toNat = 8388608 := by decide
    by_cases z : fQ a b 23 < 16777216
    · have e1 := z_ishl (x := fE a b + 127) (k := 23) (by omega) (by omega) (by rw [p23]; omega)
      have e2 := z_ior (x := fE a b + 127) (k := 23) (y := fQ a b 23 - 8388608) (by omega) (by omega) (by rw [p23]; omega) (by omega) (by rw [p23]; omega)
      rw [if_pos z, if_pos z, w32_eq (x := fE a b + 127) (by omega) (by omega), e1, w32_eq (x := fQ a b 23) (by omega) (by omega), w32_eq (x := fQ a b 23 - 8388608) (by omega) (by omega), e2, p23]
      have : (fE a b + 127) * 8388608 + (fQ a b 23 - 8388608) = (fE a b + 126) * 8388608 + fQ a b 23 := by omega
      rw [this]
    · have e1 := z_ishl (x := fE a b + 1 + 127) (k := 23) (by omega) (by omega) (by rw [p23]; omega)
      have e2 := z_ior (x := fE a b + 1 + 127) (k := 23) (y := fQ a b 23 / 2 - 8388608) (by omega) (by omega) (by rw [p23]; omega) (by omega) (by rw [p23]; omega)
      rw [if_neg z, if_neg z, w32_eq (x := fE a b + 1 + 127) (by omega) (by omega), e1, w32_eq (x := fQ a b 23 / 2) (by omega) (by omega), w32_eq (x := fQ a b 23 / 2 - 8388608) (by omega) (by omega), e2, p23]
      have : (fE a b + 1 + 127) * 8388608 + (fQ a b 23 / 2 - 8388608) = (fE a b + 126) * 8388608 + fQ a b 23 := by omega
      rw [this]
theorem o_asDouble (h : kd w m = 10) {a b : Int} (ha : 0 ≤ a ∧ a ≤ 1048576) (hb : 0 < b ∧ b ≤ 1048576) : ∃ v, Ex pro (d + 2) 210 w [rV m, iV a, iV b] = some (some (lV (dbF a b)), if a = 0 then w else sv w m 26 v) := by
  unfold dbF
  by_cases c : a = 0
  · refine ⟨0, ?_⟩
    rw [if_pos c, if_pos c]
    refine xX12_asDouble (Rn.ret ?_)
    rw [eX12_asDouble_0, if_pos c]
  · refine ⟨if fQ a b 52 < 9007199254740992 then fE a b else fE a b + 1, ?_⟩
    obtain ⟨r1, r2, r3, r4, r5⟩ := f_rg (a := a) (b := b) (by omega) hb
    have q := fQ_rg (a := a) (b := b) (by omega) hb 52
    have e := o_firstBits (d := d) h (a := a) (b := b) (g := 53) (by omega) hb (by omega)
    rw [show ((53 : Int) - 1).toNat = 52 from rfl, show (2 : Int) ^ (53 : Int).toNat = 9007199254740992 by decide] at e
    rw [if_neg c, if_neg c]
    refine xX12_asDouble (Rn.ret ?_)
    rw [eX12_asDouble_0, if_neg c, if_pos h, e]
    simp only [bL]
    rw [kdS, if_pos h, gvSS]
    have p52 : (2 : Int) ^ (52 : Int).toNat = 4503599627370496 := by decide
    by_cases z : fQ a b 52 < 9007199254740992
    · have e1 := z_lshl (x := fE a b + 1023) (k := 52) (by omega) (by omega) (by rw [p52]; omega)
      have e2 := z_lor (x := fE a b + 1023) (k := 52) (y := fQ a b 52 - 4503599627370496) (by omega) (by omega) (by rw [p52]; omega) (by omega) (by rw [p52]; omega)
      rw [if_pos z, if_pos z, w64_eq (x := fE a b + 1023) (by omega) (by omega), e1, w64_eq (x := fQ a b 52 - 4503599627370496) (by omega) (by omega), e2, p52]
      have : (fE a b + 1023) * 4503599627370496 + (fQ a b 52 - 4503599627370496) = (fE a b + 1022) * 4503599627370496 + fQ a b 52 := by omega
      rw [this]
    · have e1 := z_lshl (x := fE a b + 1 + 1023) (k := 52) (by omega) (by omega) (by rw [p52]; omega)
      have e2 := z_lor (x := fE a b + 1 + 1023) (k := 52) (y := fQ a b 52 / 2 - 4503599627370496) (by omega) (by omega) (by rw [p52]; omega) (by omega) (by rw [p52]; omega)
      rw [if_neg z, if_neg z, w64_eq (x := fE a b + 1 + 1023) (by omega) (by omega), e1, w64_eq (x := fQ a b 52 / 2 - 4503599627370496) (by omega) (by omega), e2, p52]
      have : (fE a b + 1 + 1023) * 4503599627370496 + (fQ a b 52 / 2 - 4503599627370496) = (fE a b + 1022) * 4503599627370496 + fQ a b 52 := by omega
      rw [this]
theorem ft_rg {a b : Int} (ha : 0 ≤ a ∧ a ≤ 1048576) (hb : 0 < b ∧ b ≤ 1048576) : 0 ≤ ftF a b ∧ ftF a b < 2147483648 := by
  unfold ftF
  by_cases c : a = 0
  · rw [if_pos c]; omega
  · obtain ⟨r1, r2, r3, r4, r5⟩ := f_rg (a := a) (b := b) (by omega) hb
    have q := fQ_rg (a := a) (b := b) (by omega) hb 23
    rw [if_neg c]
    omega
theorem db_rg {a b : Int} (ha : 0 ≤ a ∧ a ≤ 1048576) (hb : 0 < b ∧ b ≤ 1048576) : 0 ≤ dbF a b ∧ dbF a b < 9223372036854775808 := by
  unfold dbF
  by_cases c : a = 0
  · rw [if_pos c]; omega
  · obtain ⟨r1, r2, r3, r4, r5⟩ := f_rg (a := a) (b := b) (by omega) hb
    have q := fQ_rg (a := a) (b := b) (by omega) hb 52
    rw [if_neg c]
    omega
end FR2
