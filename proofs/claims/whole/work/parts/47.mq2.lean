/-! ===== the reference's questions: words, leaves, trees, two rows ===== -/
theorem NwSh.g {w : sW} {m : Int} (h : NwSh w m) {j : Int} (h0 : 0 ≤ j) (h1 : j < 6062) : kd w (gv w m 14) = 20 ∧ 0 ≤ j ∧ j < ln w (gv w m 14) := by
  obtain ⟨a1, a2, a3, a4, a5⟩ := h
  rw [a2, a4]
  exact ⟨a3, h0, h1⟩
theorem sv_sv (w : sW) (r k v v' : Int) : sv (sv w r k v) r k v' = sv w r k v' := by
  unfold sv
  refine Prod.ext rfl (Prod.ext ?_ rfl)
  funext a j
  simp only []
  split <;> simp_all
theorem ite10 {P : Prop} [Decidable P] {α : Type} (a b : α) : (if (if P then (1 : Int) else 0) = 0 then a else b) = if P then b else a := by
  by_cases c : P
  · rw [if_pos c, if_pos c, if_neg (by decide)]
  · rw [if_neg c, if_neg c, if_pos rfl]
section MQ2
variable {d : Nat} {w : sW} {m : Int} {A : Rm}
theorem o_refuse (h : kd w m = 10) : Ex pro (d + 1) 150 w [rV m] = some (some (iV 0), sv w m 0 1) := by
  refine xX12_refuse (Rn.ret ?_)
  rw [eX12_refuse_0, if_pos h, wl_eq]
theorem q_thrown (h : kd w m = 10) : Ex pro (d + 1) 149 w [rV m] = some (some (iV (gv w m 0)), w) := by
  refine xX12_thrown (Rn.ret ?_)
  rw [eX12_thrown_0, if_pos h]
theorem l_mWord (h : MoI w m A) {r i : Int} (hr : isR A r) (hi : 0 ≤ i ∧ i ≤ nA A r) : ∀ (f : Nat) (y p : Int), p + f = i + 32 → i ≤ p → Rn (Ex pro (d + 1)) mX12_word (36, [some (rV m), some (iV r), some (iV i), some (iV y), some (iV p)], [], w) (some (iV (wrd (bA A r) (nA A r) y p f)), w)
  | 0, y, p, hp, h0 => by
    have n6 := h.n6 hr
    refine Rn.ret ?_
    rw [eX12_word_36, w32_eq (x := i + 32) (by omega) (by omega), if_neg (by omega)]
    rfl
  | f + 1, y, p, hp, h0 => by
    have n6 := h.n6 hr
    have ih := l_mWord h hr hi f (f_ior (f_ishl y 1) (if 0 ≤ p ∧ p < nA A r ∧ bA A r p = 1 then 1 else 0)) (p + 1) (by omega) (by omega)
    refine Rn.cut ?_ ih
    rw [eX12_word_36, w32_eq (x := i + 32) (by omega) (by omega), if_pos (by omega), if_pos h.1.1, h.size hr]
    simp only [bI]
    rw [w32_eq (x := p + 1) (by omega) (by omega)]
    by_cases c : p < nA A r
    · have b01 := h.b01 hr (i := p) (by omega) c
      rw [if_pos c, if_pos h.1.1, h.bit hr (by omega) c]
      simp only []
      rcases b01 with e | e
      · rw [e, if_neg (fun z => by omega)]
      · rw [e, if_pos ⟨by omega, c, rfl⟩]
    · rw [if_neg c, if_neg (fun z => c z.2.1)]
theorem q_word (h : MoI w m A) (r i : Int) : Ex pro (d + 3) 200 w [rV m, iV r, iV i] = some (some (iV (if isR A r ∧ 0 ≤ i ∧ i ≤ nA A r then wrd (bA A r) (nA A r) 0 i 32 else 0)), sv w m 0 (if isR A r ∧ 0 ≤ i ∧ i ≤ nA A r then 0 else 1)) := by
  have h' := h.t0
  have k0 := h.1.1
  have k1 := h'.1.1
  by_cases c : isR A r ∧ 0 ≤ i ∧ i ≤ nA A r
  · rw [if_pos c, if_pos c]
    refine xX12_word (Rn.cut ?_ (l_mWord (d := d + 1) h' c.1 c.2 32 0 i (by omega) (by omega)))
    rw [eX12_word_0, if_pos k0, wl_eq, if_pos k1, h'.isRow r]
    simp only [bI]
    rw [if_pos c.1, if_neg (by decide), if_pos k1, h'.size c.1]
    simp only []
    rw [o_isIn]
    simp only []
    rw [if_pos c.2, if_neg (by decide)]
  · rw [if_neg c, if_neg c]
    refine xX12_word (Rn.ret ?_)
    rw [eX12_word_0, if_pos k0, wl_eq, if_pos k1, h'.isRow r]
    simp only [bI]
    by_cases c1 : isR A r
    · rw [if_pos c1, if_neg (by decide), if_pos k1, h'.size c1]
      simp only []
      rw [o_isIn]
      simp only []
      rw [if_neg (show ¬ (0 ≤ i ∧ i ≤ nA A r) from fun z => c ⟨c1, z⟩), if_pos rfl, if_pos k1, o_refuse k1]
      simp only []
      rw [sv_sv]
    · rw [if_neg c1, if_pos rfl, if_pos k1, o_refuse k1]
      simp only []
      rw [sv_sv]
theorem q_leaves (h : MoI w m A) (r : Int) : Ex pro (d + 3) 201 w [rV m, iV r] = some (some (iV (if isR A r then kA A r else -1)), sv w m 0 0) := by
  have h' := h.t0
  have k0 := h.1.1
  have k1 := h'.1.1
  refine xX12_leaves (Rn.ret ?_)
  rw [eX12_leaves_0, if_pos k0, wl_eq, if_pos k1, h'.isRow r]
  simp only [bI]
  by_cases c : isR A r
  · have r4 := h.r4 c
    rw [if_pos c, if_neg (by decide), if_pos k1, w32_eq (x := 2611 + r) (by omega) (by omega), if_pos (h'.1.g (by omega) (by omega)), h'.1.2.1, h'.kn c, if_pos c]
  · rw [if_neg c, if_pos rfl, if_neg c]
theorem psm_n {n k low : Int} {l : Int → Int} (h : LvOk n k l low) {j : Int} (h0 : 0 ≤ j) (hj : j < k) : 0 ≤ psm l 0 j.toNat ∧ psm l 0 j.toNat + l j ≤ n := by
  have e := psm_cut l h0 hj
  have e1 := psm_ge (l := l) (c := 0) (k - j - 1).toNat (j + 1) (fun x x1 x2 => by have := (h.2.2.2.2 x (by omega) (by omega)).1; omega)
  have e2 := psm_ge (l := l) (c := 0) j.toNat 0 (fun x x1 x2 => by have := (h.2.2.2.2 x (by omega) (by omega)).1; omega)
  have := h.2.2.2.1
  omega
theorem psm_succ (l : Int → Int) {j : Int} (h0 : 0 ≤ j) : psm l 0 (j + 1).toNat = psm l 0 j.toNat + l j := by
  have := psm_add l j.toNat 1 0
  rw [show (j + 1).toNat = j.toNat + 1 by omega, this]
  simp only [psm]
  rw [show (0 : Int) + (j.toNat : Int) = j by omega]
  omega
def leafF (A : Rm) (r k what : Int) : Int := if isR A r ∧ 0 ≤ k ∧ k < kA A r then (if what = 0 then lA A r k else if what = 1 then cnt (bA A r) 1 (psm (lA A r) 0 k.toNat) (lA A r k).toNat else if what = 2 then psm (lA A r) 0 k.toNat else -1) else -1
theorem l_mLeaf (h : MoI w m A) {r k e : Int} (hr : isR A r) (hk : 0 ≤ k ∧ k < kA A r) : ∀ (f : Nat) (p : Int), p + f = k → 0 ≤ p → Rn (Ex pro (d + 2)) mX12_leaf (41, [some (rV m), some (iV r), some (iV k), some (iV e), some (iV (psm (lA A r) 0 p.toNat)), some (iV p)], [], w) (some (iV (leafF A r k e)), w)
  | 0, p, hp, h0 => by
    have r4 := h.r4 hr
    have k5 := h.k15 hr
    have hpk : p = k := by omega
    subst hpk
    have b := h.lb hr h0 hk.2
    have n6 := h.n6 hr
    have pn := psm_n (h.row hr).2.1 h0 hk.2
    have e2 : psm (lA A r) 0 p.toNat + lA A r p ≤ nA A r := pn.2
    have e3 : 0 ≤ psm (lA A r) 0 p.toNat := pn.1
    refine Rn.ret ?_
    rw [eX12_leaf_41, if_neg (by omega), if_pos h.1.1, if_pos h.1.1, o_leafAt r4 (by omega)]
    simp only [bI]
    rw [if_pos (h.1.g (by omega) (by omega)), h.1.2.1, h.lf hr h0 hk.2]
    unfold leafF
    rw [if_pos (show isR A r ∧ 0 ≤ p ∧ p < kA A r from ⟨hr, hk⟩)]
    by_cases c0 : e = 0
    · rw [if_pos c0, if_pos c0]
    · rw [if_neg c0, if_neg c0]
      by_cases c1 : e = 1
      · rw [if_pos c1, if_pos c1, if_pos h.1.1, w32_eq (by omega) (by omega), h.ones hr e3 e2]
        simp only []
        rw [show (psm (lA A r) 0 p.toNat + lA A r p - psm (lA A r) 0 p.toNat).toNat = (lA A r p).toNat by omega]
      · rw [if_neg c1, if_neg c1]
        by_cases c2 : e = 2
        · rw [if_pos c2, if_pos c2]
        · rw [if_neg c2, if_neg c2]
  | f + 1, p, hp, h0 => by
    have r4 := h.r4 hr
    have k5 := h.k15 hr
    have b := h.lb hr (j := p) h0 (by omega)
    have n6 := h.n6 hr
    have pn := psm_n (h.row hr).2.1 (j := p) h0 (by show p < kA A r; omega)
    have e2 : psm (lA A r) 0 p.toNat + lA A r p ≤ nA A r := pn.2
    have e3 : 0 ≤ psm (lA A r) 0 p.toNat := pn.1
    have ih := l_mLeaf h hr hk (e := e) f (p + 1) (by omega) (by omega)
    rw [psm_succ _ h0] at ih
    refine Rn.cut ?_ ih
    rw [eX12_leaf_41, if_pos (by omega), if_pos h.1.1, if_pos h.1.1, o_leafAt r4 (by omega)]
    simp only [bI]
    rw [if_pos (h.1.g (by omega) (by omega)), h.1.2.1, h.lf hr h0 (by omega), w32_eq (x := p + 1) (by omega) (by omega), w32_eq (by omega) (by omega)]
theorem q_leaf (h : MoI w m A) (r k e : Int) : Ex pro (d + 3) 202 w [rV m, iV r, iV k, iV e] = some (some (iV (leafF A r k e)), sv w m 0 0) := by
  have h' := h.t0
  have k0 := h.1.1
  have k1 := h'.1.1
  by_cases c : isR A r ∧ 0 ≤ k ∧ k < kA A r
  · have r4 := h.r4 c.1
    have k5 := h.k15 c.1
    have l := l_mLeaf (d := d) h' (e := e) c.1 c.2 k.toNat 0 (by omega) (by omega)
    refine xX12_leaf (Rn.cut ?_ l)
    rw [eX12_leaf_0, if_pos k0, wl_eq, if_pos k1, h'.isRow r]
    simp only [bI]
    rw [if_pos c.1, if_neg (by decide), if_pos k1, w32_eq (x := 2611 + r) (by omega) (by omega), if_pos (h'.1.g (by omega) (by omega)), h'.1.2.1, h'.kn c.1, w32_eq (x := kA A r - 1) (by omega) (by omega), o_isIn]
    simp only []
    rw [if_pos (show 0 ≤ k ∧ k ≤ kA A r - 1 by omega), if_neg (by decide)]
    rfl
  · unfold leafF
    rw [if_neg c]
    refine xX12_leaf (Rn.ret ?_)
    rw [eX12_leaf_0, if_pos k0, wl_eq, if_pos k1, h'.isRow r]
    simp only [bI]
    by_cases c1 : isR A r
    · have r4 := h.r4 c1
      have k5 := h.k15 c1
      rw [if_pos c1, if_neg (by decide), if_pos k1, w32_eq (x := 2611 + r) (by omega) (by omega), if_pos (h'.1.g (by omega) (by omega)), h'.1.2.1, h'.kn c1, w32_eq (x := kA A r - 1) (by omega) (by omega), o_isIn]
      simp only []
      rw [if_neg (show ¬ (0 ≤ k ∧ k ≤ kA A r - 1) from fun z => c ⟨c1, by omega⟩), if_pos rfl]
    · rw [if_neg c1, if_pos rfl]
theorem o_inner {k : Int} (h : 0 ≤ k ∧ k ≤ 1000) : Ex pro (d + 1) 205 w [iV k] = some (some (iV (if 1 < k then k - 1 else 0)), w) := by
  refine xX12_innerOf (Rn.ret ?_)
  rw [eX12_innerOf_0, w32_eq (by omega) (by omega)]
  grind
theorem o_high : ∀ (f : Nat) (k : Int), 0 ≤ k → k ≤ 2 ^ f → k ≤ 1000 → Ex pro (d + f + 1) 203 w [iV k] = some (some (iV (hgt f k)), w)
  | 0, k, h0, h1, h2 => by
    refine xX12_highOf (Rn.ret ?_)
    rw [eX12_highOf_0, if_pos (by omega)]
    rfl
  | f + 1, k, h0, h1, h2 => by
    refine xX12_highOf (Rn.ret ?_)
    rw [eX12_highOf_0]
    by_cases c : k < 2
    · rw [if_pos c]
      simp only [hgt]
      rw [if_neg (by omega)]
    · have e : Int.tdiv (k + 1) 2 = k - k / 2 := by rw [Int.tdiv_eq_ediv_of_nonneg (by omega)]; omega
      have ih := o_high f (k - k / 2) (by omega) (by rw [Int.pow_succ] at h1; omega) (by omega)
      rw [if_neg c, if_neg (by decide), w32_eq (x := k + 1) (by omega) (by omega), e, w32_eq (x := k - k / 2) (by omega) (by omega), show d + (f + 1) = d + f + 1 by omega, ih]
      simp only [bI, hgt]
      have hb : ∀ (f : Nat) (k : Int), 0 ≤ hgt f k ∧ hgt f k ≤ f := fun f => by
        induction f with
        | zero => intro k; simp [hgt]
        | succ f ih =>
          intro k
          have := ih (k - k / 2)
          simp only [hgt]
          split <;> omega
      have := hb f (k - k / 2)
      have f9 : (f : Int) ≤ 1000000 ∨ 1000000 < (f : Int) := by omega
      rw [if_pos (by omega)]
      have h1000 : hgt f (k - k / 2) ≤ k := by
        have hb2 : ∀ (f : Nat) (k : Int), 0 ≤ k → hgt f k ≤ k := fun f => by
          induction f with
          | zero => intro k hk; simp only [hgt]; omega
          | succ f ih =>
            intro k hk
            have := ih (k - k / 2) (by omega)
            simp only [hgt]
            split <;> omega
        have := hb2 f (k - k / 2) (by omega)
        omega
      rw [w32_eq (by omega) (by omega)]
theorem o_mix1 {k : Int} (h : k < 2) : Ex pro (d + 1) 204 w [iV k] = some (some (iV 0), w) := by
  refine xX12_mixedOf (Rn.ret ?_)
  rw [eX12_mixedOf_0, if_pos h]
theorem o_mix2 : Ex pro (d + 2) 204 w [iV 2] = some (some (iV 0), w) := by
  refine xX12_mixedOf (Rn.ret ?_)
  rw [eX12_mixedOf_0, if_neg (by decide), if_neg (by decide), show w32 (Int.tdiv (w32 (2 + 1)) 2) = 1 from w32_eq (by decide) (by decide), o_mix1 (by decide)]
  simp only [bI]
  rw [if_neg (by decide), show w32 (Int.tdiv 2 2) = 1 from w32_eq (by decide) (by decide), o_mix1 (by decide)]
  simp only []
  rw [if_neg (by decide)]
  rfl
theorem o_mix3 : Ex pro (d + 3) 204 w [iV 3] = some (some (iV 1), w) := by
  refine xX12_mixedOf (Rn.ret ?_)
  rw [eX12_mixedOf_0, if_neg (by decide), if_neg (by decide), show w32 (Int.tdiv (w32 (3 + 1)) 2) = 2 from w32_eq (by decide) (by decide), o_mix2]
  simp only [bI]
  rw [if_neg (by decide), show w32 (Int.tdiv 3 2) = 1 from w32_eq (by decide) (by decide), o_mix1 (by decide)]
  simp only []
  rw [if_pos trivial]
  rfl
theorem o_mix03 (k : Int) (h0 : 0 ≤ k) (h3 : k ≤ 3) : Ex pro (d + 3) 204 w [iV k] = some (some (iV (if k = 3 then 1 else 0)), w) := by
  by_cases c3 : k = 3
  · rw [c3, if_pos rfl]; exact o_mix3
  · rw [if_neg c3]
    by_cases c2 : k = 2
    · rw [c2]; exact o_mix2
    · exact o_mix1 (by omega)
theorem o_mixed : ∀ (f : Nat) (k : Int), 0 ≤ k → k ≤ 3 * 2 ^ f → k ≤ 1000 → Ex pro (d + f + 3) 204 w [iV k] = some (some (iV (triN f k)), w)
  | 0, k, h0, h1, h2 => by
    have := o_mix03 (d := d) (w := w) k h0 (by omega)
    simp only [triN]
    exact this
  | f + 1, k, h0, h1, h2 => by
    by_cases c3 : 3 < k
    · have i1 := o_mixed f (k - k / 2) (by omega) (by rw [Int.pow_succ] at h1; omega) (by omega)
      have i2 := o_mixed f (k / 2) (by omega) (by rw [Int.pow_succ] at h1; omega) (by omega)
      have b1 := triN_le f (k - k / 2) (by omega)
      have b2 := triN_le f (k / 2) (by omega)
      have e : Int.tdiv (k + 1) 2 = k - k / 2 := by rw [Int.tdiv_eq_ediv_of_nonneg (by omega)]; omega
      have e' : Int.tdiv k 2 = k / 2 := by rw [Int.tdiv_eq_ediv_of_nonneg (by omega)]
      refine xX12_mixedOf (Rn.ret ?_)
      rw [eX12_mixedOf_0, if_neg (by omega), if_neg (by decide), w32_eq (x := k + 1) (by omega) (by omega), e, w32_eq (x := k - k / 2) (by omega) (by omega), show d + (f + 1) + 2 = d + f + 3 by omega, i1]
      simp only [bI]
      rw [if_neg (by decide), e', w32_eq (x := k / 2) (by omega) (by omega), i2]
      simp only []
      rw [if_neg (by omega), w32_eq (x := triN f (k - k / 2) + triN f (k / 2)) (by omega) (by omega), w32_eq (by omega) (by omega), Int.add_zero]
      simp only [triN]
      rw [if_pos c3]
    · simp only [triN]
      rw [if_neg c3, show d + (f + 1) + 3 = (d + f + 1) + 3 by omega]
      exact o_mix03 k h0 (by omega)
theorem cst_le {l : Int → Int} : ∀ (f : Nat) (j : Int), (∀ x, j ≤ x → x < j + f → 0 ≤ l x ∧ l x ≤ 1000) → 0 ≤ cst l j f ∧ cst l j f ≤ 40 * f
  | 0, j, h => by simp [cst]
  | f + 1, j, h => by
    have := cst_le (l := l) f (j + 1) (fun x x1 x2 => h x (by omega) (by omega))
    have := h j (by omega) (by omega)
    simp only [cst]
    omega
theorem l_mCost (h : MoI w m A) {r : Int} (hr : isR A r) : ∀ (f : Nat) (y j : Int), j + f = kA A r → 0 ≤ j → 0 ≤ y → y ≤ 1000 + 50 * j → Rn (Ex pro (d + 1)) mX12_costOf (18, [some (rV m), some (iV r), some (iV y), some (iV j)], [], w) (some (iV (y + cst (lA A r) j f)), w)
  | 0, y, j, hj, h0, hy, hyj => by
    have r4 := h.r4 hr
    refine Rn.ret ?_
    rw [eX12_costOf_18, if_pos h.1.1, w32_eq (x := 2611 + r) (by omega) (by omega), if_pos (h.1.g (by omega) (by omega)), h.1.2.1, h.kn hr, if_neg (by omega)]
    simp [cst]
  | f + 1, y, j, hj, h0, hy, hyj => by
    have r4 := h.r4 hr
    have k5 := h.k15 hr
    have b := h.lb hr (j := j) h0 (by omega)
    have ih := l_mCost h hr f (y + ((lA A r j + 31) / 32 + 4)) (j + 1) (by omega) (by omega) (by omega) (by omega)
    rw [show y + ((lA A r j + 31) / 32 + 4) + cst (lA A r) (j + 1) f = y + cst (lA A r) j (f + 1) by simp only [cst]; omega] at ih
    refine Rn.cut ?_ ih
    rw [eX12_costOf_18, if_pos h.1.1, w32_eq (x := 2611 + r) (by omega) (by omega), if_pos (h.1.g (by omega) (by omega)), h.1.2.1, h.kn hr, if_pos (by omega), if_pos h.1.1, if_pos h.1.1, o_leafAt r4 (by omega)]
    simp only [bI]
    have hg := h.1.g (j := 2816 + 151 * r + j) (by omega) (by omega)
    rw [h.1.2.1] at hg
    rw [if_pos hg, if_neg (by decide), h.lf hr h0 (by omega), w32_eq (x := lA A r j + 31) (by omega) (by omega), Int.tdiv_eq_ediv_of_nonneg (by omega), w32_eq (x := (lA A r j + 31) / 32) (by omega) (by omega), w32_eq (x := (lA A r j + 31) / 32 + 4) (by omega) (by omega), w32_eq (x := j + 1) (by omega) (by omega), w32_eq (by omega) (by omega)]
theorem MoI.cost (h : MoI w m A) {r : Int} (hr : isR A r) : Ex pro (d + 2) 206 w [rV m, iV r] = some (some (iV (cosF (lA A r) (kA A r))), w) := by
  have r4 := h.r4 hr
  have k5 := h.k15 hr
  have l := l_mCost (d := d) h hr (kA A r).toNat (5 * (if 1 < kA A r then kA A r - 1 else 0)) 0 (by omega) (by omega) (by grind) (by grind)
  refine xX12_costOf (Rn.cut ?_ l)
  rw [eX12_costOf_0, if_pos h.1.1, w32_eq (x := 2611 + r) (by omega) (by omega), if_pos (h.1.g (by omega) (by omega)), h.1.2.1, h.kn hr, o_inner (by omega)]
  simp only [bI]
  rw [w32_eq (by grind) (by grind)]
def treeF (A : Rm) (r e : Int) : Int := if isR A r then (if e = 0 then hgt 8 (kA A r) else if e = 1 then (if 1 < kA A r then kA A r - 1 else 0) else if e = 2 then triN 6 (kA A r) else if e = 3 then cosF (lA A r) (kA A r) else -1) else -1
theorem q_tree (h : MoI w m A) (r e : Int) : Ex pro (d + 10) 207 w [rV m, iV r, iV e] = some (some (iV (treeF A r e)), sv w m 0 0) := by
  have h' := h.t0
  have k0 := h.1.1
  have k1 := h'.1.1
  refine xX12_tree (Rn.ret ?_)
  rw [eX12_tree_0, if_pos k0, wl_eq, if_pos k1, h'.isRow r]
  simp only [bI]
  unfold treeF
  by_cases c : isR A r
  · have r4 := h.r4 c
    have k5 := h.k15 c
    rw [if_pos c, if_neg (by decide), if_pos k1, w32_eq (x := 2611 + r) (by omega) (by omega), if_pos (h'.1.g (by omega) (by omega)), h'.1.2.1, h'.kn c, if_pos c]
    by_cases c0 : e = 0
    · rw [if_pos c0, if_pos c0, o_high (d := d) 8 (kA A r) (by omega) (by omega) (by omega)]
    · rw [if_neg c0, if_neg c0]
      by_cases c1 : e = 1
      · rw [if_pos c1, if_pos c1, o_inner (by omega)]
      · rw [if_neg c1, if_neg c1]
        by_cases c2 : e = 2
        · rw [if_pos c2, if_pos c2, o_mixed (d := d) 6 (kA A r) (by omega) (by omega) (by omega)]
        · rw [if_neg c2, if_neg c2]
          by_cases c3 : e = 3
          · rw [if_pos c3, if_pos c3, if_pos k1, h'.cost c]
          · rw [if_neg c3, if_neg c3]
  · rw [if_neg c, if_pos rfl, if_neg c]
end MQ2
