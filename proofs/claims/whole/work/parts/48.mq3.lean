/-! ===== the reference's questions: two rows, letters ===== -/
theorem ful_rg (b c : Int → Int) : ∀ (f : Nat) (p : Int), p ≤ ful b c p f ∧ ful b c p f ≤ p + f
  | 0, p => by simp [ful]
  | f + 1, p => by
    have := ful_rg b c f (p + 1)
    simp only [ful]
    split <;> omega
section MQ3
variable {d : Nat} {w : sW} {m : Int} {A : Rm}
/-- the first place where two rows are apart, or the end of the shorter -/
def fap (A : Rm) (r s : Int) : Int := ful (bA A r) (bA A s) 0 (minI (nA A r) (nA A s)).toNat
theorem l_mFirst (h : MoI w m A) {r s : Int} (hr : isR A r) (hs : isR A s) : ∀ (f : Nat) (p : Int), p + f = minI (nA A r) (nA A s) → 0 ≤ p → Rn (Ex pro (d + 2)) mX12_firstApart (2, [some (rV m), some (iV r), some (iV s), some (iV p)], [], w) (some (iV (ful (bA A r) (bA A s) p f)), w)
  | 0, p, hp, h0 => by
    refine Rn.ret ?_
    rw [eX12_firstApart_2, if_pos h.1.1, h.there hr]
    simp only [bI, ite10]
    unfold minI at hp
    by_cases c : p < nA A r
    · rw [if_pos ⟨h0, c⟩, if_pos h.1.1, h.there hs]
      simp only [ite10]
      rw [if_neg (fun z => by split at hp <;> omega)]
      rfl
    · rw [if_neg (fun z => c z.2)]
      rfl
  | f + 1, p, hp, h0 => by
    have n6 := h.n6 hr
    have m1 : p < nA A r := by unfold minI at hp; split at hp <;> omega
    have m2 : p < nA A s := by unfold minI at hp; split at hp <;> omega
    by_cases c : bA A r p = bA A s p
    · have ih := l_mFirst h hr hs f (p + 1) (by omega) (by omega)
      rw [show ful (bA A r) (bA A s) p (f + 1) = ful (bA A r) (bA A s) (p + 1) f by simp only [ful]; rw [if_pos c]]
      refine Rn.cut ?_ ih
      rw [eX12_firstApart_2, if_pos h.1.1, h.there hr]
      simp only [bI, ite10]
      rw [if_pos ⟨h0, m1⟩, if_pos h.1.1, h.there hs]
      simp only [ite10]
      rw [if_pos ⟨h0, m2⟩, if_pos h.1.1, h.bit hr h0 m1]
      simp only [ite10]
      rw [if_pos h.1.1, h.bit hs h0 m2]
      simp only [ite10]
      rw [if_pos c, w32_eq (by omega) (by omega)]
    · rw [show ful (bA A r) (bA A s) p (f + 1) = p by simp only [ful]; rw [if_neg c]]
      refine Rn.ret ?_
      rw [eX12_firstApart_2, if_pos h.1.1, h.there hr]
      simp only [bI, ite10]
      rw [if_pos ⟨h0, m1⟩, if_pos h.1.1, h.there hs]
      simp only [ite10]
      rw [if_pos ⟨h0, m2⟩, if_pos h.1.1, h.bit hr h0 m1]
      simp only [ite10]
      rw [if_pos h.1.1, h.bit hs h0 m2]
      simp only [ite10]
      rw [if_neg c]
theorem MoI.first (h : MoI w m A) {r s : Int} (hr : isR A r) (hs : isR A s) : Ex pro (d + 3) 214 w [rV m, iV r, iV s] = some (some (iV (fap A r s)), w) := by
  have n1 := h.n6 hr
  have n2 := h.n6 hs
  exact xX12_firstApart (Rn.cut (eX12_firstApart_0 _ _ _ _ _) (l_mFirst (d := d) h hr hs (minI (nA A r) (nA A s)).toNat 0 (by unfold minI; split <;> omega) (by omega)))
theorem l_mApart (h : MoI w m A) {r s : Int} (hr : isR A r) (hs : isR A s) : ∀ (f : Nat) (y p : Int), p + f = minI (nA A r) (nA A s) → 0 ≤ p → 0 ≤ y → y ≤ 600 + p → Rn (Ex pro (d + 2)) mX12_apart (65, [some (rV m), some (iV r), some (iV s), some (iV y), some (iV p)], [], w) (some (iV (y + unl (bA A r) (bA A s) p f)), w)
  | 0, y, p, hp, h0, hy, hyp => by
    refine Rn.ret ?_
    rw [eX12_apart_65, if_pos h.1.1, h.there hr]
    simp only [bI, ite10]
    unfold minI at hp
    by_cases c : p < nA A r
    · rw [if_pos ⟨h0, c⟩, if_pos h.1.1, h.there hs]
      simp only [ite10]
      rw [if_neg (fun z => by split at hp <;> omega)]
      simp [unl]
    · rw [if_neg (fun z => c z.2)]
      simp [unl]
  | f + 1, y, p, hp, h0, hy, hyp => by
    have n6 := h.n6 hr
    have m1 : p < nA A r := by unfold minI at hp; split at hp <;> omega
    have m2 : p < nA A s := by unfold minI at hp; split at hp <;> omega
    have ih := l_mApart h hr hs f (y + if bA A r p = bA A s p then 0 else 1) (p + 1) (by omega) (by omega) (by split <;> omega) (by split <;> omega)
    rw [show y + (if bA A r p = bA A s p then 0 else 1) + unl (bA A r) (bA A s) (p + 1) f = y + unl (bA A r) (bA A s) p (f + 1) by simp only [unl]; omega] at ih
    refine Rn.cut ?_ ih
    rw [eX12_apart_65, if_pos h.1.1, h.there hr]
    simp only [bI, ite10]
    rw [if_pos ⟨h0, m1⟩, if_pos h.1.1, h.there hs]
    simp only [ite10]
    rw [if_pos ⟨h0, m2⟩, if_pos h.1.1, h.bit hr h0 m1]
    simp only [ite10]
    rw [if_pos h.1.1, h.bit hs h0 m2]
    simp only [ite10]
    rw [w32_eq (x := p + 1) (by omega) (by omega), w32_eq (x := y + 1) (by omega) (by omega)]
    by_cases c : bA A r p = bA A s p
    · rw [if_pos c, if_pos c, Int.add_zero]
    · rw [if_neg c, if_neg c]
def apaF (A : Rm) (r s : Int) : Int := if isR A r ∧ isR A s then maxI (nA A r) (nA A s) - minI (nA A r) (nA A s) + unl (bA A r) (bA A s) 0 (minI (nA A r) (nA A s)).toNat else -1
theorem q_apart (h : MoI w m A) (r s : Int) : Ex pro (d + 3) 215 w [rV m, iV r, iV s] = some (some (iV (apaF A r s)), sv w m 0 0) := by
  have h' := h.t0
  have k0 := h.1.1
  have k1 := h'.1.1
  by_cases c : isR A r ∧ isR A s
  · have n1 := h.n6 c.1
    have n2 := h.n6 c.2
    have l := l_mApart (d := d) h' c.1 c.2 (minI (nA A r) (nA A s)).toNat (maxI (nA A r) (nA A s) - minI (nA A r) (nA A s)) 0 (by unfold minI; split <;> omega) (by omega) (by unfold minI maxI; split <;> split <;> omega) (by unfold minI maxI; split <;> split <;> omega)
    unfold apaF
    rw [if_pos c]
    refine xX12_apart (Rn.cut ?_ l)
    rw [eX12_apart_0, if_pos k0, wl_eq, if_pos k1, h'.isRow r]
    simp only [bI, ite10]
    rw [if_pos c.1, if_pos k1, h'.isRow s]
    simp only [ite10]
    rw [if_pos c.2, if_pos k1, h'.size c.1]
    simp only [ite10]
    rw [if_pos k1, h'.size c.2]
    simp only [ite10]
    unfold minI maxI
    by_cases z : nA A s < nA A r
    · rw [if_pos z, if_pos z, if_neg (show ¬ nA A r < nA A s by omega), if_pos k1, h'.size c.1]
      simp only []
      rw [if_pos k1, h'.size c.2]
      simp only []
      rw [w32_eq (by omega) (by omega)]
    · rw [if_neg z, if_neg z, if_pos k1, h'.size c.2]
      simp only []
      rw [if_pos k1, h'.size c.1]
      simp only []
      rw [w32_eq (by omega) (by omega)]
      by_cases y : nA A r < nA A s
      · rw [if_pos y]
      · rw [if_neg y, show nA A s = nA A r by omega]
  · unfold apaF
    rw [if_neg c]
    refine xX12_apart (Rn.ret ?_)
    rw [eX12_apart_0, if_pos k0, wl_eq, if_pos k1, h'.isRow r]
    simp only [bI, ite10]
    by_cases c1 : isR A r
    · rw [if_pos c1, if_pos k1, h'.isRow s]
      simp only [ite10]
      rw [if_neg (fun z => c ⟨c1, z⟩)]
    · rw [if_neg c1]
theorem MoI.like (h : MoI w m A) {r s : Int} (hr : isR A r) (hs : isR A s) : Ex pro (d + 4) 216 w [rV m, iV r, iV s] = some (some (iV (if difF (bA A r) (bA A s) (nA A r) (nA A s) = -1 then 1 else 0)), w) := by
  have n1 := h.n6 hr
  have n2 := h.n6 hs
  have g := ful_rg (bA A r) (bA A s) (minI (nA A r) (nA A s)).toNat 0
  refine xX12_areLike (Rn.ret ?_)
  rw [eX12_areLike_0, if_pos h.1.1, h.size hr]
  simp only [bI, ite10]
  rw [if_pos h.1.1, h.size hs]
  simp only [ite10]
  unfold difF
  by_cases c : nA A r = nA A s
  · rw [if_pos c, if_pos h.1.1, h.first hr hs]
    simp only [ite10]
    rw [if_pos h.1.1, h.size hr]
    simp only [ite10]
    unfold fap
    have e : minI (nA A r) (nA A s) = nA A r := by unfold minI; split <;> omega
    rw [e] at g ⊢
    by_cases z : ful (bA A r) (bA A s) 0 (nA A r).toNat = nA A r
    · rw [if_pos z, if_neg (show ¬ ful (bA A r) (bA A s) 0 (nA A r).toNat < nA A r by omega), if_pos c, if_pos rfl]
    · rw [if_neg z, if_pos (show ful (bA A r) (bA A s) 0 (nA A r).toNat < nA A r by omega), if_neg (by omega)]
  · rw [if_neg c, if_neg c]
    have e : 0 ≤ minI (nA A r) (nA A s) := by unfold minI; split <;> omega
    rw [if_neg (by split <;> omega)]
theorem q_differ (h : MoI w m A) (r s : Int) : Ex pro (d + 5) 217 w [rV m, iV r, iV s] = some (some (iV (if isR A r ∧ isR A s then difF (bA A r) (bA A s) (nA A r) (nA A s) else -1)), sv w m 0 0) := by
  have h' := h.t0
  have k0 := h.1.1
  have k1 := h'.1.1
  refine xX12_differ (Rn.ret ?_)
  rw [eX12_differ_0, if_pos k0, wl_eq, if_pos k1, h'.isRow r]
  simp only [bI, ite10]
  by_cases c1 : isR A r
  · rw [if_pos c1, if_pos k1, h'.isRow s]
    simp only [ite10]
    by_cases c2 : isR A s
    · have n1 := h.n6 c1
      have n2 := h.n6 c2
      rw [if_pos c2, if_pos k1, h'.like c1 c2, if_pos (⟨c1, c2⟩ : isR A r ∧ isR A s)]
      simp only [ite10]
      by_cases z : difF (bA A r) (bA A s) (nA A r) (nA A s) = -1
      · rw [if_pos z, z]
      · rw [if_neg z, if_pos k1, h'.first c1 c2]
        simp only [ite10]
        have g := ful_rg (bA A r) (bA A s) (minI (nA A r) (nA A s)).toNat 0
        have e : 0 ≤ minI (nA A r) (nA A s) := by unfold minI; split <;> omega
        unfold difF at z ⊢
        unfold fap
        split at z
        · rw [if_pos (by assumption)]
        · rename_i q
          rw [if_neg q]
          by_cases y : nA A r = nA A s
          · rw [if_pos y] at z; exact absurd rfl z
          · rw [if_neg y, show ful (bA A r) (bA A s) 0 (minI (nA A r) (nA A s)).toNat = minI (nA A r) (nA A s) by omega]
    · rw [if_neg c2, if_neg (fun z => c2 z.2)]
  · rw [if_neg c1, if_neg (fun z => c1 z.1)]
theorem MoI.begins (h : MoI w m A) {r s : Int} (hr : isR A r) (hs : isR A s) : Ex pro (d + 4) 263 w [rV m, iV r, iV s] = some (some (iV (if difF (bA A r) (bA A s) (nA A r) (nA A s) = -1 ∨ difF (bA A r) (bA A s) (nA A r) (nA A s) = nA A s then 1 else 0)), w) := by
  have n1 := h.n6 hr
  have n2 := h.n6 hs
  have g := ful_rg (bA A r) (bA A s) (minI (nA A r) (nA A s)).toNat 0
  refine xX12_beginsWith (Rn.ret ?_)
  rw [eX12_beginsWith_0, if_pos h.1.1, h.size hs]
  simp only [bI, ite10]
  rw [if_pos h.1.1, h.size hr]
  simp only [ite10]
  by_cases c : nA A r < nA A s
  · have e : minI (nA A r) (nA A s) = nA A r := by unfold minI; split <;> omega
    rw [if_pos c]
    unfold difF
    rw [e] at g ⊢
    rw [if_neg (by split <;> (try split) <;> omega)]
  · have e : minI (nA A r) (nA A s) = nA A s := by unfold minI; split <;> omega
    rw [if_neg c, if_pos h.1.1, h.first hr hs]
    simp only [ite10]
    rw [if_pos h.1.1, h.size hs]
    simp only [ite10]
    unfold fap difF
    rw [e] at g ⊢
    by_cases z : ful (bA A r) (bA A s) 0 (nA A s).toNat = nA A s
    · rw [if_pos z, z, if_neg (show ¬ nA A s < nA A s by omega), if_pos (by split <;> omega)]
    · rw [if_neg z, if_pos (show ful (bA A r) (bA A s) 0 (nA A s).toNat < nA A s by omega), if_neg (by omega)]
theorem MoI.onesOf (h : MoI w m A) {r : Int} (hr : isR A r) : Ex pro (d + 3) 264 w [rV m, iV r] = some (some (iV (cnt (bA A r) 1 0 (nA A r).toNat)), w) := by
  have n1 := h.n6 hr
  refine xX12_onesOf (Rn.ret ?_)
  rw [eX12_onesOf_0, if_pos h.1.1, h.size hr]
  simp only [bI, ite10]
  rw [if_pos h.1.1, h.ones hr (by omega) (by omega), show (nA A r - 0).toNat = (nA A r).toNat by omega]
theorem l_mAll (h : MoI w m A) : ∀ (f : Nat) (y r : Int), r + f = A.1 → 0 ≤ r → 0 ≤ y → y ≤ 600 * r → Rn (Ex pro (d + 1)) mX12_allBits (4, [some (rV m), some (iV y), some (iV r)], [], w) (some (iV (y + abt A.2.2.2.1 r f)), w)
  | 0, y, r, hr, h0, hy, hyr => by
    have hA := h.2.2.2.1
    refine Rn.ret ?_
    rw [eX12_allBits_4, if_pos h.1.1, if_pos (h.1.g (by omega) (by omega)), h.1.2.1, h.2.1, if_neg (by omega)]
    simp [abt]
  | f + 1, y, r, hr, h0, hy, hyr => by
    have hA := h.2.2.2.1
    have c : isR A r := ⟨h0, by omega⟩
    have n1 := h.n6 c
    have ih := l_mAll h f (y + nA A r) (r + 1) (by omega) (by omega) (by omega) (by omega)
    rw [show y + nA A r + abt A.2.2.2.1 (r + 1) f = y + abt A.2.2.2.1 r (f + 1) by simp only [abt]; show y + (A.2.2.2.1 r).1 + _ = _; omega] at ih
    refine Rn.cut ?_ ih
    rw [eX12_allBits_4, if_pos h.1.1, if_pos (h.1.g (by omega) (by omega)), h.1.2.1, h.2.1, if_pos (by omega), if_pos h.1.1, h.size c]
    simp only [bI, ite10]
    rw [w32_eq (by omega) (by omega), w32_eq (by omega) (by omega)]
theorem MoI.all (h : MoI w m A) : Ex pro (d + 2) 259 w [rV m] = some (some (iV (abt A.2.2.2.1 0 A.1.toNat)), w) := by
  have hA := h.2.2.2.1
  have l := l_mAll (d := d) h A.1.toNat 0 0 (by omega) (by omega) (by omega) (by omega)
  rw [Int.zero_add] at l
  exact xX12_allBits (Rn.cut (eX12_allBits_0 _ _ _) l)
theorem q_total (h : MoI w m A) (e : Int) : Ex pro (d + 3) 278 w [rV m, iV e] = some (some (iV (if e = 0 then A.1 else if e = 1 then A.2.1 else if e = 2 then abt A.2.2.2.1 0 A.1.toNat else if e = 3 then gv w m 2 else -1)), sv w m 0 0) := by
  have h' := h.t0
  have k0 := h.1.1
  have k1 := h'.1.1
  refine xX12_total (Rn.ret ?_)
  rw [eX12_total_0, if_pos k0, wl_eq, if_pos k1, if_pos k1, if_pos k1, if_pos k1, if_pos (h'.1.g (j := 0) (by omega) (by omega)), if_pos (h'.1.g (j := 1) (by omega) (by omega)), h'.1.2.1, h'.2.1, h'.2.2.1, h'.all, show gv (sv w m 0 0) m 2 = gv w m 2 from by rw [gvS, if_neg (by omega)]]
  simp only [bI, ite10]
  by_cases c0 : e = 0
  · simp [c0]
  · by_cases c1 : e = 1
    · simp [c1]
    · by_cases c2 : e = 2
      · simp [c2]
      · by_cases c3 : e = 3
        · simp [c3]
        · simp [c0, c1, c2, c3]
abbrev nT (A : Rm) : Int := A.2.2.2.2.1
abbrev tT (A : Rm) : Int → Int := A.2.2.2.2.2
theorem MoI.ln (h : MoI w m A) : gv w (m + 2) 2615 = nT A := h.2.2.2.2.2.2.1
theorem MoI.l2 (h : MoI w m A) : 0 ≤ nT A ∧ nT A ≤ 200 := h.2.2.2.2.2.2.2.1
theorem MoI.tx (h : MoI w m A) {i : Int} (h0 : 0 ≤ i) (hi : i < nT A) : gv w (m + 2) (2616 + i) = tT A i ∧ 0 ≤ tT A i ∧ tT A i < 8 := h.2.2.2.2.2.2.2.2 i h0 hi
theorem MoI.isLet (h : MoI w m A) (i : Int) : Ex pro (d + 2) 222 w [rV m, iV i] = some (some (iV (if 0 ≤ i ∧ i < nT A then 1 else 0)), w) := by
  have l2 := h.l2
  refine xX12_isLetterAt (Rn.ret ?_)
  rw [eX12_isLetterAt_0, if_pos h.1.1, if_pos (h.1.g (by omega) (by omega)), h.1.2.1, h.ln, w32_eq (by omega) (by omega), o_isIn]
  simp only [bI, ite10]
  grind
theorem q_letters (h : MoI w m A) : Ex pro (d + 1) 223 w [rV m] = some (some (iV (nT A)), sv w m 0 0) := by
  have h' := h.t0
  refine xX12_letters (Rn.ret ?_)
  rw [eX12_letters_0, if_pos h.1.1, wl_eq, if_pos h'.1.1, if_pos (h'.1.g (by omega) (by omega)), h'.1.2.1, h'.ln]
theorem q_letter (h : MoI w m A) (i : Int) : Ex pro (d + 3) 224 w [rV m, iV i] = some (some (iV (if 0 ≤ i ∧ i < nT A then tT A i else -1)), sv w m 0 0) := by
  have h' := h.t0
  have l2 := h.l2
  refine xX12_letter (Rn.ret ?_)
  rw [eX12_letter_0, if_pos h.1.1, wl_eq, if_pos h'.1.1, h'.isLet]
  simp only [bI, ite10]
  by_cases c : 0 ≤ i ∧ i < nT A
  · rw [if_pos c, if_pos h'.1.1, w32_eq (by omega) (by omega), if_pos (h'.1.g (by omega) (by omega)), h'.1.2.1, (h'.tx c.1 c.2).1, if_pos c]
  · rw [if_neg c, if_neg c]
theorem l_mCount (h : MoI w m A) {c i : Int} (hi : i ≤ nT A) {C : sC} : ∀ (f : Nat) (y p : Int), p + f = i → 0 ≤ p → 0 ≤ y → y ≤ p → Rn C mX12_count (38, [some (rV m), some (iV c), some (iV i), some (iV y), some (iV p)], [], w) (some (iV (y + cnt (tT A) c p f)), w)
  | 0, y, p, hp, h0, hy, hyp => by
    refine Rn.ret ?_
    rw [eX12_count_38, if_neg (by omega)]
    simp [cnt]
  | f + 1, y, p, hp, h0, hy, hyp => by
    have l2 := h.l2
    have ih := l_mCount h hi (c := c) (C := C) f (y + if tT A p = c then 1 else 0) (p + 1) (by omega) (by omega) (by split <;> omega) (by split <;> omega)
    rw [show y + (if tT A p = c then 1 else 0) + cnt (tT A) c (p + 1) f = y + cnt (tT A) c p (f + 1) by simp only [cnt]; omega] at ih
    refine Rn.cut ?_ ih
    rw [eX12_count_38, if_pos (by omega), if_pos h.1.1, w32_eq (x := 2616 + p) (by omega) (by omega), if_pos (h.1.g (by omega) (by omega)), h.1.2.1, (h.tx h0 (by omega)).1, w32_eq (x := y + 1) (by omega) (by omega), w32_eq (x := p + 1) (by omega) (by omega)]
    by_cases z : tT A p = c
    · rw [if_pos z, if_pos z]
    · rw [if_neg z, if_neg z, Int.add_zero]
theorem q_count (h : MoI w m A) (c i : Int) : Ex pro (d + 2) 225 w [rV m, iV c, iV i] = some (some (iV (if (0 ≤ c ∧ c < 8) ∧ 0 ≤ i ∧ i ≤ nT A then cnt (tT A) c 0 i.toNat else -1)), sv w m 0 0) := by
  have h' := h.t0
  have l2 := h.l2
  by_cases z : (0 ≤ c ∧ c < 8) ∧ 0 ≤ i ∧ i ≤ nT A
  · have l := l_mCount h' (c := c) (C := Ex pro (d + 1)) z.2.2 i.toNat 0 0 (by omega) (by omega) (by omega) (by omega)
    rw [Int.zero_add] at l
    rw [if_pos z]
    refine xX12_count (Rn.cut ?_ l)
    rw [eX12_count_0, if_pos h.1.1, wl_eq, o_isIn]
    simp only [bI, ite10]
    rw [if_pos (by omega), if_pos h'.1.1, if_pos (h'.1.g (by omega) (by omega)), h'.1.2.1, h'.ln, o_isIn]
    simp only [ite10]
    rw [if_pos z.2]
  · rw [if_neg z]
    refine xX12_count (Rn.ret ?_)
    rw [eX12_count_0, if_pos h.1.1, wl_eq, o_isIn]
    simp only [bI, ite10]
    by_cases c1 : 0 ≤ c ∧ c ≤ 7
    · rw [if_pos c1, if_pos h'.1.1, if_pos (h'.1.g (by omega) (by omega)), h'.1.2.1, h'.ln, o_isIn]
      simp only [ite10]
      rw [if_neg (fun y => z ⟨by omega, y⟩)]
    · rw [if_neg c1]
theorem l_mPlace (h : MoI w m A) {c k : Int} {C : sC} : ∀ (f : Nat) (y p : Int), p + f = nT A → 0 ≤ p → 0 ≤ y → y ≤ p → Rn C mX12_place (26, [some (rV m), some (iV c), some (iV k), some (iV y), some (iV p)], [], w) (some (iV (sel (tT A) c k y p f)), w)
  | 0, y, p, hp, h0, hy, hyp => by
    refine Rn.ret ?_
    rw [eX12_place_26, if_pos h.1.1, if_pos (h.1.g (by omega) (by omega)), h.1.2.1, h.ln, if_neg (by omega)]
    rfl
  | f + 1, y, p, hp, h0, hy, hyp => by
    have l2 := h.l2
    have hg := h.1.g (j := 2616 + p) (by omega) (by omega)
    rw [h.1.2.1] at hg
    by_cases z : tT A p = c
    · by_cases z2 : y = k
      · refine Rn.ret ?_
        rw [eX12_place_26, if_pos h.1.1, if_pos (h.1.g (by omega) (by omega)), h.1.2.1, h.ln, if_pos (by omega), if_pos h.1.1, w32_eq (x := 2616 + p) (by omega) (by omega), if_pos hg, (h.tx h0 (by omega)).1, if_pos z, if_pos z2]
        simp only [sel]
        rw [if_pos z, if_pos z2]
      · have ih := l_mPlace h (c := c) (k := k) (C := C) f (y + 1) (p + 1) (by omega) (by omega) (by omega) (by omega)
        rw [show sel (tT A) c k y p (f + 1) = sel (tT A) c k (y + 1) (p + 1) f by simp only [sel]; rw [if_pos z, if_neg z2]]
        refine Rn.cut ?_ ih
        rw [eX12_place_26, if_pos h.1.1, if_pos (h.1.g (by omega) (by omega)), h.1.2.1, h.ln, if_pos (by omega), if_pos h.1.1, w32_eq (x := 2616 + p) (by omega) (by omega), if_pos hg, (h.tx h0 (by omega)).1, if_pos z, if_neg z2, w32_eq (x := y + 1) (by omega) (by omega), w32_eq (x := p + 1) (by omega) (by omega)]
    · have ih := l_mPlace h (c := c) (k := k) (C := C) f y (p + 1) (by omega) (by omega) (by omega) (by omega)
      rw [show sel (tT A) c k y p (f + 1) = sel (tT A) c k y (p + 1) f by simp only [sel]; rw [if_neg z]]
      refine Rn.cut ?_ ih
      rw [eX12_place_26, if_pos h.1.1, if_pos (h.1.g (by omega) (by omega)), h.1.2.1, h.ln, if_pos (by omega), if_pos h.1.1, w32_eq (x := 2616 + p) (by omega) (by omega), if_pos hg, (h.tx h0 (by omega)).1, if_neg z, w32_eq (x := p + 1) (by omega) (by omega)]
theorem q_place (h : MoI w m A) (c k : Int) : Ex pro (d + 2) 226 w [rV m, iV c, iV k] = some (some (iV (if (0 ≤ c ∧ c < 8) ∧ 0 ≤ k then sel (tT A) c k 0 0 (nT A).toNat else -1)), sv w m 0 0) := by
  have h' := h.t0
  have l2 := h.l2
  by_cases z : (0 ≤ c ∧ c < 8) ∧ 0 ≤ k
  · have l := l_mPlace h' (c := c) (k := k) (C := Ex pro (d + 1)) (nT A).toNat 0 0 (by omega) (by omega) (by omega) (by omega)
    rw [if_pos z]
    refine xX12_place (Rn.cut ?_ l)
    rw [eX12_place_0, if_pos h.1.1, wl_eq, o_isIn]
    simp only [bI, ite10]
    rw [if_pos (by omega), if_neg (by omega)]
  · rw [if_neg z]
    refine xX12_place (Rn.ret ?_)
    rw [eX12_place_0, if_pos h.1.1, wl_eq, o_isIn]
    simp only [bI, ite10]
    by_cases c1 : 0 ≤ c ∧ c ≤ 7
    · rw [if_pos c1, if_pos (by have := fun y => z ⟨by omega, y⟩; omega)]
    · rw [if_neg c1]
end MQ3
