/-! ===== the reference's room, and its questions ===== -/
abbrev nA (A : Rm) (r : Int) : Int := (A.2.2.2.1 r).1
abbrev bA (A : Rm) (r : Int) : Int → Int := (A.2.2.2.1 r).2.1
abbrev kA (A : Rm) (r : Int) : Int := (A.2.2.2.1 r).2.2.1
abbrev lA (A : Rm) (r : Int) : Int → Int := (A.2.2.2.1 r).2.2.2
/-- the numbers X are those of the room A -/
def MX (X : Int → Int) (A : Rm) : Prop := X 0 = A.1 ∧ X 1 = A.2.1 ∧ (0 ≤ A.1 ∧ A.1 ≤ 4) ∧ (4 ≤ A.2.1 ∧ A.2.1 ≤ 32) ∧ (∀ r, 0 ≤ r → r < A.1 → MI X r (A.2.2.2.1 r) A.2.1) ∧ X 2615 = A.2.2.2.2.1 ∧ (0 ≤ A.2.2.2.2.1 ∧ A.2.2.2.2.1 ≤ 200) ∧ ∀ i, 0 ≤ i → i < A.2.2.2.2.1 → X (2616 + i) = A.2.2.2.2.2 i ∧ 0 ≤ A.2.2.2.2.2 i ∧ A.2.2.2.2.2 i < 8
def MoI (w : sW) (m : Int) (A : Rm) : Prop := NwSh w m ∧ MX (gv w (m + 2)) A
/-- a question of the reference changes its cells 0 and 26 alone -/
def Qf (w w' : sW) (m : Int) : Prop := w'.1 = w.1 ∧ w'.2.2 = w.2.2 ∧ ∀ r j, (r ≠ m ∨ (j ≠ 0 ∧ j ≠ 26)) → gv w' r j = gv w r j
theorem Qf.kdE {w w' : sW} {m : Int} (h : Qf w w' m) (r : Int) : kd w' r = kd w r := by unfold kd; rw [h.1]
theorem Qf.lnE {w w' : sW} {m : Int} (h : Qf w w' m) (r : Int) : ln w' r = ln w r := by unfold ln; rw [h.1]
theorem Qf.refl (w : sW) (m : Int) : Qf w w m := ⟨rfl, rfl, fun _ _ _ => rfl⟩
theorem Qf.trans {w w' w'' : sW} {m : Int} (h : Qf w w' m) (g : Qf w' w'' m) : Qf w w'' m := ⟨g.1.trans h.1, g.2.1.trans h.2.1, fun r j x => (g.2.2 r j x).trans (h.2.2 r j x)⟩
theorem Qf.t (w : sW) (m v : Int) : Qf w (sv w m 0 v) m := ⟨rfl, rfl, fun r j x => by rw [gvS, if_neg (by omega)]⟩
theorem Qf.p (w : sW) (m v : Int) : Qf w (sv w m 26 v) m := ⟨rfl, rfl, fun r j x => by rw [gvS, if_neg (by omega)]⟩
theorem Qf.fr {w w' : sW} {m : Int} (h : Qf w w' m) : Fr w w' m m := ⟨h.1, h.2.1, fun r j x => h.2.2 r j (by omega)⟩
theorem MoI.q {w w' : sW} {m : Int} {A : Rm} (h : MoI w m A) (g : Qf w w' m) : MoI w' m A := by
  have e : gv w' (m + 2) = gv w (m + 2) := funext fun j => g.2.2 _ _ (by omega)
  obtain ⟨⟨h1, h2, h3, h4, h5⟩, h6⟩ := h
  refine ⟨⟨by rw [g.kdE, h1], by rw [g.2.2 _ _ (by omega), h2], by rw [g.kdE, h3], by rw [g.lnE, h4], h5⟩, ?_⟩
  rw [e]
  exact h6
section MQ
variable {d : Nat} {w : sW} {m : Int} {A : Rm}
theorem MoI.isRow (h : MoI w m A) (r : Int) : Ex pro (d + 2) 188 w [rV m, iV r] = some (some (iV (if isR A r then 1 else 0)), w) := o_isRow h.1 h.2.1 h.2.2.2.1 r
theorem MoI.row (h : MoI w m A) {r : Int} (hr : isR A r) : MI (gv w (m + 2)) r (A.2.2.2.1 r) A.2.1 := h.2.2.2.2.2.1 r hr.1 hr.2
theorem MoI.r4 (h : MoI w m A) {r : Int} (hr : isR A r) : 0 ≤ r ∧ r < 4 := by
  have := h.2.2.2.1
  unfold isR at hr
  omega
theorem MoI.n6 (h : MoI w m A) {r : Int} (hr : isR A r) : 0 ≤ nA A r ∧ nA A r ≤ 600 := (h.row hr).2.1.2.1
theorem MoI.size (h : MoI w m A) {r : Int} (hr : isR A r) : Ex pro (d + 1) 180 w [rV m, iV r] = some (some (iV (nA A r)), w) := by
  rw [o_sizeOf h.1 (h.r4 hr), (h.row hr).1.1]
theorem MoI.bit (h : MoI w m A) {r i : Int} (hr : isR A r) (h0 : 0 ≤ i) (hi : i < nA A r) : Ex pro (d + 1) 181 w [rV m, iV r, iV i] = some (some (iV (bA A r i)), w) := by
  have := h.n6 hr
  rw [o_bitOf h.1 (h.r4 hr) (by omega), (h.row hr).1.2.2.1 i h0 hi]
theorem MoI.b01 (h : MoI w m A) {r i : Int} (hr : isR A r) (h0 : 0 ≤ i) (hi : i < nA A r) : bA A r i = 0 ∨ bA A r i = 1 := (h.row hr).2.2 i h0 hi
theorem MoI.there (h : MoI w m A) {r : Int} (hr : isR A r) (i : Int) : Ex pro (d + 2) 190 w [rV m, iV r, iV i] = some (some (iV (if 0 ≤ i ∧ i < nA A r then 1 else 0)), w) := o_isThere h.1 (h.r4 hr) (h.row hr).1.1 (h.n6 hr) i
theorem MoI.ones (h : MoI w m A) {r s t : Int} (hr : isR A r) (hs : 0 ≤ s) (ht : t ≤ nA A r) : Ex pro (d + 2) 191 w [rV m, iV r, iV s, iV t] = some (some (iV (cnt (bA A r) 1 s (t - s).toNat)), w) :=
  o_onesIn h.1 (h.r4 hr) hs (by have := h.n6 hr; omega) (fun i x y => ⟨(h.row hr).1.2.2.1 i x (by show i < nA A r; omega), h.b01 hr x (by omega)⟩)
theorem MoI.kn (h : MoI w m A) {r : Int} (hr : isR A r) : gv w (m + 2) (2611 + r) = kA A r := (h.row hr).1.2.1
theorem MoI.k15 (h : MoI w m A) {r : Int} (hr : isR A r) : 0 ≤ kA A r ∧ kA A r ≤ 150 := ⟨(h.row hr).2.1.2.2.1, (h.row hr).2.1.k⟩
theorem MoI.lf (h : MoI w m A) {r j : Int} (hr : isR A r) (h0 : 0 ≤ j) (hj : j < kA A r) : gv w (m + 2) (2816 + 151 * r + j) = lA A r j := (h.row hr).1.2.2.2.1 j h0 hj
theorem MoI.lb (h : MoI w m A) {r j : Int} (hr : isR A r) (h0 : 0 ≤ j) (hj : j < kA A r) : 1 ≤ lA A r j ∧ lA A r j ≤ 64 := by
  have g := (h.row hr).2.1
  have := (g.2.2.2.2 j h0 hj).1
  have := g.1
  show 1 ≤ (A.2.2.2.1 r).2.2.2 j ∧ (A.2.2.2.1 r).2.2.2 j ≤ 64
  omega
theorem MoI.t0 (h : MoI w m A) : MoI (sv w m 0 0) m A := h.q (Qf.t w m 0)
theorem q_size (h : MoI w m A) (r : Int) : Ex pro (d + 3) 192 w [rV m, iV r] = some (some (iV (if isR A r then nA A r else -1)), sv w m 0 0) := by
  have h' := h.t0
  have k0 := h.1.1
  have k1 := h'.1.1
  refine xX12_size (Rn.ret ?_)
  rw [eX12_size_0, if_pos k0, wl_eq, if_pos k1, h'.isRow r]
  simp only [bI]
  by_cases c : isR A r
  · rw [if_pos c, if_neg (by decide), if_pos k1, h'.size c, if_pos c]
  · rw [if_neg c, if_pos rfl, if_neg c]
theorem q_bit (h : MoI w m A) (r i : Int) : Ex pro (d + 3) 193 w [rV m, iV r, iV i] = some (some (iV (if isR A r then (if 0 ≤ i ∧ i < nA A r then bA A r i else -1) else -1)), sv w m 0 0) := by
  have h' := h.t0
  have k0 := h.1.1
  have k1 := h'.1.1
  refine xX12_bit (Rn.ret ?_)
  rw [eX12_bit_0, if_pos k0, wl_eq, if_pos k1, h'.isRow r]
  simp only [bI]
  by_cases c : isR A r
  · rw [if_pos c, if_neg (by decide), if_pos k1, h'.there c, if_pos c]
    simp only []
    by_cases ci : 0 ≤ i ∧ i < nA A r
    · rw [if_pos ci, if_neg (by decide), if_pos k1, h'.bit c ci.1 ci.2, if_pos ci]
    · rw [if_neg ci, if_pos rfl, if_neg ci]
  · rw [if_neg c, if_pos rfl, if_neg c]
theorem cnt01 {b : Int → Int} : ∀ (f : Nat) (p : Int), (∀ x, p ≤ x → x < p + f → b x = 0 ∨ b x = 1) → cnt b 0 p f + cnt b 1 p f = f
  | 0, p, h => by simp [cnt]
  | f + 1, p, h => by
    have ih := cnt01 (b := b) f (p + 1) (fun x x1 x2 => h x (by omega) (by omega))
    have := h p (by omega) (by omega)
    simp only [cnt]
    split <;> split <;> omega
theorem q_rank (h : MoI w m A) (r i b : Int) : Ex pro (d + 3) 194 w [rV m, iV r, iV i, iV b] = some (some (iV (if isR A r ∧ (b = 0 ∨ b = 1) ∧ 0 ≤ i ∧ i ≤ nA A r then cnt (bA A r) b 0 i.toNat else -1)), sv w m 0 0) := by
  have h' := h.t0
  have k0 := h.1.1
  have k1 := h'.1.1
  refine xX12_rank (Rn.ret ?_)
  rw [eX12_rank_0, if_pos k0, wl_eq, if_pos k1, h'.isRow r]
  simp only [bI]
  by_cases c : isR A r
  · rw [if_pos c, if_neg (by decide), if_pos k1, o_isBit]
    simp only []
    by_cases cb : 0 ≤ b ∧ b ≤ 1
    · rw [if_pos cb, if_neg (by decide), if_pos k1, h'.size c]
      simp only []
      rw [o_isIn]
      simp only []
      by_cases ci : 0 ≤ i ∧ i ≤ nA A r
      · have n6 := h.n6 c
        have e := cnt01 (b := bA A r) i.toNat 0 (fun x x1 x2 => h.b01 c x1 (by omega))
        have e2 := cnt_le (bA A r) 1 i.toNat 0
        rw [if_pos ci, if_neg (by decide), if_pos k1, h'.ones c (by omega) ci.2, if_pos (⟨c, by omega, ci⟩ : isR A r ∧ (b = 0 ∨ b = 1) ∧ 0 ≤ i ∧ i ≤ nA A r), show (i - 0).toNat = i.toNat by omega]
        simp only []
        by_cases b1 : b = 1
        · rw [if_pos b1, b1]
        · have b0 : b = 0 := by omega
          rw [if_neg b1, w32_eq (by omega) (by omega), b0]
          have : i - cnt (bA A r) 1 0 i.toNat = cnt (bA A r) 0 0 i.toNat := by omega
          rw [this]
      · rw [if_neg ci, if_pos rfl, if_neg (fun z => ci z.2.2)]
    · rw [if_neg cb, if_pos rfl, if_neg (fun z => cb (by omega))]
  · rw [if_neg c, if_pos rfl, if_neg (fun z => c z.1)]
theorem l_mSelect (h : MoI w m A) {r q v : Int} (hr : isR A r) : ∀ (f : Nat) (y p : Int), p + f = nA A r → 0 ≤ p → 0 ≤ y → y ≤ p → Rn (Ex pro (d + 1)) mX12_select (33, [some (rV m), some (iV r), some (iV q), some (iV v), some (iV y), some (iV p)], [], w) (some (iV (sel (bA A r) v q y p f)), w)
  | 0, y, p, hp, h0, hy, hyp => by
    refine Rn.ret ?_
    rw [eX12_select_33, if_pos h.1.1, h.size hr]
    simp only [bI]
    rw [if_neg (by omega)]
    rfl
  | f + 1, y, p, hp, h0, hy, hyp => by
    have n6 := h.n6 hr
    have ih1 := l_mSelect h hr (q := q) (v := v) f (y + 1) (p + 1) (by omega) (by omega) (by omega) (by omega)
    have ih2 := l_mSelect h hr (q := q) (v := v) f y (p + 1) (by omega) (by omega) (by omega) (by omega)
    by_cases c1 : bA A r p = v
    · by_cases c2 : y = q
      · refine Rn.ret ?_
        rw [eX12_select_33, if_pos h.1.1, h.size hr]
        simp only [bI]
        rw [if_pos (by omega), if_pos h.1.1, h.bit hr h0 (by omega)]
        simp only []
        rw [if_pos c1, if_pos c2]
        simp [sel, c1, c2]
      · rw [show sel (bA A r) v q y p (f + 1) = sel (bA A r) v q (y + 1) (p + 1) f by simp only [sel]; rw [if_pos c1, if_neg c2]]
        refine Rn.cut ?_ ih1
        rw [eX12_select_33, if_pos h.1.1, h.size hr]
        simp only [bI]
        rw [if_pos (by omega), if_pos h.1.1, h.bit hr h0 (by omega)]
        simp only []
        rw [if_pos c1, if_neg c2, w32_eq (x := y + 1) (by omega) (by omega), w32_eq (x := p + 1) (by omega) (by omega)]
    · rw [show sel (bA A r) v q y p (f + 1) = sel (bA A r) v q y (p + 1) f by simp only [sel]; rw [if_neg c1]]
      refine Rn.cut ?_ ih2
      rw [eX12_select_33, if_pos h.1.1, h.size hr]
      simp only [bI]
      rw [if_pos (by omega), if_pos h.1.1, h.bit hr h0 (by omega)]
      simp only []
      rw [if_neg c1, w32_eq (x := p + 1) (by omega) (by omega)]
theorem q_select (h : MoI w m A) (r k b : Int) : Ex pro (d + 3) 195 w [rV m, iV r, iV k, iV b] = some (some (iV (if isR A r ∧ (b = 0 ∨ b = 1) ∧ 0 ≤ k then sel (bA A r) b k 0 0 (nA A r).toNat else -1)), sv w m 0 0) := by
  have h' := h.t0
  have k0 := h.1.1
  have k1 := h'.1.1
  by_cases c : isR A r ∧ (b = 0 ∨ b = 1) ∧ 0 ≤ k
  · have n6 := h.n6 c.1
    have l := l_mSelect (d := d + 1) h' c.1 (q := k) (v := b) (nA A r).toNat 0 0 (by omega) (by omega) (by omega) (by omega)
    rw [if_pos c]
    refine xX12_select (Rn.cut ?_ l)
    rw [eX12_select_0, if_pos k0, wl_eq, if_pos k1, h'.isRow r]
    simp only [bI]
    rw [if_pos c.1, if_neg (by decide), if_pos k1, o_isBit]
    simp only []
    rw [if_pos (show 0 ≤ b ∧ b ≤ 1 by omega), if_neg (by decide), if_neg (by omega)]
  · rw [if_neg c]
    refine xX12_select (Rn.ret ?_)
    rw [eX12_select_0, if_pos k0, wl_eq, if_pos k1, h'.isRow r]
    simp only [bI]
    by_cases c1 : isR A r
    · rw [if_pos c1, if_neg (by decide), if_pos k1, o_isBit]
      simp only []
      by_cases c2 : 0 ≤ b ∧ b ≤ 1
      · rw [if_pos c2, if_neg (by decide), if_pos (by have := fun z => c ⟨c1, by omega, z⟩; omega)]
      · rw [if_neg c2, if_pos rfl]
    · rw [if_neg c1, if_pos rfl]
theorem l_mFind (h : MoI w m A) {r v : Int} (hr : isR A r) : ∀ (f : Nat) (p : Int), (p + f = nA A r ∨ (f = 0 ∧ nA A r ≤ p)) → 0 ≤ p → Rn (Ex pro (d + 1)) mX12_find (30, [some (rV m), some (iV r), none, some (iV v), some (iV p)], [], w) (some (iV (nxt (bA A r) v p f)), w)
  | 0, p, hp, h0 => by
    refine Rn.ret ?_
    rw [eX12_find_30, if_pos h.1.1, h.size hr]
    simp only [bI]
    rw [if_neg (by omega)]
    rfl
  | f + 1, p, hp, h0 => by
    have n6 := h.n6 hr
    have ih := l_mFind h hr (v := v) f (p + 1) (by omega) (by omega)
    by_cases c1 : bA A r p = v
    · refine Rn.ret ?_
      rw [eX12_find_30, if_pos h.1.1, h.size hr]
      simp only [bI]
      rw [if_pos (by omega), if_pos h.1.1, h.bit hr h0 (by omega)]
      simp only []
      rw [if_pos c1]
      simp [nxt, c1]
    · rw [show nxt (bA A r) v p (f + 1) = nxt (bA A r) v (p + 1) f by simp only [nxt]; rw [if_neg c1]]
      refine Rn.cut ?_ ih
      rw [eX12_find_30, if_pos h.1.1, h.size hr]
      simp only [bI]
      rw [if_pos (by omega), if_pos h.1.1, h.bit hr h0 (by omega)]
      simp only []
      rw [if_neg c1, w32_eq (x := p + 1) (by omega) (by omega)]
theorem q_find (h : MoI w m A) (r i b : Int) : Ex pro (d + 3) 196 w [rV m, iV r, iV i, iV b] = some (some (iV (if isR A r ∧ (b = 0 ∨ b = 1) ∧ 0 ≤ i then nxt (bA A r) b i (nA A r - i).toNat else -1)), sv w m 0 0) := by
  have h' := h.t0
  have k0 := h.1.1
  have k1 := h'.1.1
  by_cases c : isR A r ∧ (b = 0 ∨ b = 1) ∧ 0 ≤ i
  · have n6 := h.n6 c.1
    have l := l_mFind (d := d + 1) h' c.1 (v := b) (nA A r - i).toNat i (by omega) (by omega)
    rw [if_pos c]
    refine xX12_find (Rn.cut ?_ l)
    rw [eX12_find_0, if_pos k0, wl_eq, if_pos k1, h'.isRow r]
    simp only [bI]
    rw [if_pos c.1, if_neg (by decide), if_pos k1, o_isBit]
    simp only []
    rw [if_pos (show 0 ≤ b ∧ b ≤ 1 by omega), if_neg (by decide), if_neg (by omega)]
  · rw [if_neg c]
    refine xX12_find (Rn.ret ?_)
    rw [eX12_find_0, if_pos k0, wl_eq, if_pos k1, h'.isRow r]
    simp only [bI]
    by_cases c1 : isR A r
    · rw [if_pos c1, if_neg (by decide), if_pos k1, o_isBit]
      simp only []
      by_cases c2 : 0 ≤ b ∧ b ≤ 1
      · rw [if_pos c2, if_neg (by decide), if_pos (by have := fun z => c ⟨c1, by omega, z⟩; omega)]
      · rw [if_neg c2, if_pos rfl]
    · rw [if_neg c1, if_pos rfl]
theorem l_mRuns (h : MoI w m A) {r : Int} (hr : isR A r) : ∀ (f : Nat) (y p : Int), p + f = nA A r → 1 ≤ p → 0 ≤ y → y ≤ p → Rn (Ex pro (d + 1)) mX12_runsOf (4, [some (rV m), some (iV r), some (iV y), some (iV p)], [], w) (some (iV (y + rnc (bA A r) p f)), w)
  | 0, y, p, hp, h0, hy, hyp => by
    refine Rn.ret ?_
    rw [eX12_runsOf_4, if_pos h.1.1, h.size hr]
    simp only [bI]
    rw [if_neg (by omega)]
    simp [rnc]
  | f + 1, y, p, hp, h0, hy, hyp => by
    have n6 := h.n6 hr
    have ih := l_mRuns h hr f (y + if bA A r p = bA A r (p - 1) then 0 else 1) (p + 1) (by omega) (by omega) (by grind) (by grind)
    rw [show y + (if bA A r p = bA A r (p - 1) then 0 else 1) + rnc (bA A r) (p + 1) f = y + rnc (bA A r) p (f + 1) by simp only [rnc]; omega] at ih
    refine Rn.cut ?_ ih
    rw [eX12_runsOf_4, if_pos h.1.1, h.size hr]
    simp only [bI]
    rw [if_pos (by omega), if_neg (by omega), if_pos h.1.1, h.bit hr (by omega) (by omega)]
    simp only []
    rw [w32_eq (x := p - 1) (by omega) (by omega), if_pos h.1.1, h.bit hr (by omega) (by omega)]
    simp only []
    rw [w32_eq (x := p + 1) (by omega) (by omega), w32_eq (x := y + 1) (by omega) (by omega)]
    by_cases c : bA A r p = bA A r (p - 1)
    · rw [if_pos c, if_pos c, Int.add_zero]
    · rw [if_neg c, if_neg c]
theorem MoI.runs (h : MoI w m A) {r : Int} (hr : isR A r) : Ex pro (d + 2) 197 w [rV m, iV r] = some (some (iV (runF (bA A r) (nA A r))), w) := by
  have n6 := h.n6 hr
  by_cases c : 0 < nA A r
  · have l := l_mRuns (d := d) h hr (nA A r - 1).toNat 1 1 (by omega) (by omega) (by omega) (by omega)
    unfold runF
    rw [if_pos c]
    refine xX12_runsOf (Rn.cut (eX12_runsOf_0 _ _ _ _) (Rn.cut ?_ l))
    rw [eX12_runsOf_4, if_pos h.1.1, h.size hr]
    simp only [bI]
    rw [if_pos c, if_pos trivial]
    rfl
  · unfold runF
    rw [if_neg c]
    refine xX12_runsOf (Rn.cut (eX12_runsOf_0 _ _ _ _) (Rn.ret ?_))
    rw [eX12_runsOf_4, if_pos h.1.1, h.size hr]
    simp only [bI]
    rw [if_neg c]
theorem q_runs (h : MoI w m A) (r : Int) : Ex pro (d + 3) 198 w [rV m, iV r] = some (some (iV (if isR A r then runF (bA A r) (nA A r) else -1)), sv w m 0 0) := by
  have h' := h.t0
  have k0 := h.1.1
  have k1 := h'.1.1
  refine xX12_runs (Rn.ret ?_)
  rw [eX12_runs_0, if_pos k0, wl_eq, if_pos k1, h'.isRow r]
  simp only [bI]
  by_cases c : isR A r
  · rw [if_pos c, if_neg (by decide), if_pos k1, h'.runs c, if_pos c]
  · rw [if_neg c, if_pos rfl, if_neg c]
theorem l_mLong (h : MoI w m A) {r v : Int} (hr : isR A r) : ∀ (f : Nat) (y z p : Int), p + f = nA A r → 0 ≤ p → 0 ≤ y → 0 ≤ z → z ≤ p → Rn (Ex pro (d + 1)) mX12_longest (31, [some (rV m), some (iV r), some (iV v), some (iV y), some (iV z), some (iV p)], [], w) (some (iV (lng (bA A r) v y z p f)), w)
  | 0, y, z, p, hp, h0, hy, hz, hzp => by
    refine Rn.ret ?_
    rw [eX12_longest_31, if_pos h.1.1, h.size hr]
    simp only [bI]
    rw [if_neg (by omega)]
    rfl
  | f + 1, y, z, p, hp, h0, hy, hz, hzp => by
    have n6 := h.n6 hr
    by_cases c1 : bA A r p = v
    · have ih := l_mLong h hr (v := v) f (if y < z + 1 then z + 1 else y) (z + 1) (p + 1) (by omega) (by omega) (by grind) (by omega) (by omega)
      rw [show lng (bA A r) v y z p (f + 1) = lng (bA A r) v (if y < z + 1 then z + 1 else y) (z + 1) (p + 1) f by simp only [lng]; rw [if_pos c1]]
      refine Rn.cut ?_ ih
      rw [eX12_longest_31, if_pos h.1.1, h.size hr]
      simp only [bI]
      rw [if_pos (by omega), if_pos h.1.1, h.bit hr h0 (by omega)]
      simp only []
      rw [if_pos c1, w32_eq (x := z + 1) (by omega) (by omega), w32_eq (x := p + 1) (by omega) (by omega)]
      split <;> rfl
    · have ih := l_mLong h hr (v := v) f y 0 (p + 1) (by omega) (by omega) (by omega) (by omega) (by omega)
      rw [show lng (bA A r) v y z p (f + 1) = lng (bA A r) v y 0 (p + 1) f by simp only [lng]; rw [if_neg c1]]
      refine Rn.cut ?_ ih
      rw [eX12_longest_31, if_pos h.1.1, h.size hr]
      simp only [bI]
      rw [if_pos (by omega), if_pos h.1.1, h.bit hr h0 (by omega)]
      simp only []
      rw [if_neg c1, if_neg (by omega), w32_eq (x := p + 1) (by omega) (by omega)]
theorem q_longest (h : MoI w m A) (r b : Int) : Ex pro (d + 3) 199 w [rV m, iV r, iV b] = some (some (iV (if isR A r ∧ (b = 0 ∨ b = 1) then lng (bA A r) b 0 0 0 (nA A r).toNat else -1)), sv w m 0 0) := by
  have h' := h.t0
  have k0 := h.1.1
  have k1 := h'.1.1
  by_cases c : isR A r ∧ (b = 0 ∨ b = 1)
  · have n6 := h.n6 c.1
    have l := l_mLong (d := d + 1) h' c.1 (v := b) (nA A r).toNat 0 0 0 (by omega) (by omega) (by omega) (by omega) (by omega)
    rw [if_pos c]
    refine xX12_longest (Rn.cut ?_ l)
    rw [eX12_longest_0, if_pos k0, wl_eq, if_pos k1, h'.isRow r]
    simp only [bI]
    rw [if_pos c.1, if_neg (by decide), if_pos k1, o_isBit]
    simp only []
    rw [if_pos (show 0 ≤ b ∧ b ≤ 1 by omega), if_neg (by decide)]
  · rw [if_neg c]
    refine xX12_longest (Rn.ret ?_)
    rw [eX12_longest_0, if_pos k0, wl_eq, if_pos k1, h'.isRow r]
    simp only [bI]
    by_cases c1 : isR A r
    · rw [if_pos c1, if_neg (by decide), if_pos k1, o_isBit]
      simp only []
      rw [if_neg (show ¬ (0 ≤ b ∧ b ≤ 1) from fun z => c ⟨c1, by omega⟩), if_pos rfl]
    · rw [if_neg c1, if_pos rfl]
end MQ
