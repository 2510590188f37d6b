/-! ===== the class's questions ===== -/
/-- the object x has the room A at q -/
def NowI (w : sW) (x q : Int) (A : Rm) : Prop := kd w x = 9 ∧ gv w x 3 = q ∧ StI w q A
section CQ
variable {d : Nat} {w : sW} {x q : Int} {A : Rm}
theorem NowI.k8 (h : NowI w x q A) : kd w (gv w x 3) = 8 := by rw [h.2.1]; exact h.2.2.1.1.1
theorem NowI.yes (h : NowI w x q A) {r : Int} (hr : isR A r) {α : Type} (k : Int → sW → Option α) : bR (Ex pro (d + 1) 77 w [rV (gv w x 3), iV r]) k = k (q + 5 + 3 * r) w := by
  have := h.2.2.1.2.2.2.2.2.2
  rw [h.2.1, m_rowAt h.2.2, if_pos hr, bR_eq (by unfold isR at hr; omega)]
theorem NowI.no (h : NowI w x q A) {r : Int} (hr : ¬ isR A r) {α : Type} (k : Int → sW → Option α) : bR (Ex pro (d + 1) 77 w [rV (gv w x 3), iV r]) k = k 0 w := by
  rw [h.2.1, m_rowAt h.2.2, if_neg hr, bR_eq (by omega)]
theorem NowI.nz (h : NowI w x q A) {r : Int} (hr : isR A r) : ¬ q + 5 + 3 * r = 0 := by
  have := h.2.2.1.2.2.2.2.2.2
  unfold isR at hr
  omega
theorem NowI.row (h : NowI w x q A) {r : Int} (hr : isR A r) : RowI w (q + 5 + 3 * r) (A.2.2.2.1 r) A.2.1 := h.2.2.2.2.2.2.2.1 r hr.1 hr.2
theorem NowI.at (h : NowI w x q A) {r : Int} (hr : isR A r) : RowAt w (q + 5 + 3 * r) (nA A r) (bA A r) (kA A r) (lA A r) := (h.row hr).at
theorem NowI.k5 (h : NowI w x q A) {r : Int} (hr : isR A r) : kd w (q + 5 + 3 * r) = 5 := (h.row hr).1.1.1
theorem NowI.lv (h : NowI w x q A) {r : Int} (hr : isR A r) : LvOk (nA A r) (kA A r) (lA A r) A.2.1 := (h.row hr).2.1
theorem NowI.l10 (h : NowI w x q A) {r : Int} (hr : isR A r) : ∀ j, 0 ≤ j → j < kA A r → 0 ≤ lA A r j ∧ lA A r j ≤ 1000 := fun j j0 j1 => by
  have := (h.lv hr).1
  have := ((h.lv hr).2.2.2.2 j j0 j1).1
  omega
theorem p_isBit (b : Int) : Ex pro (d + 1) 106 w [iV b] = some (some (iV (if b = 0 ∨ b = 1 then 1 else 0)), w) := by
  refine xX11_isBit (Rn.ret ?_)
  rw [eX11_isBit_0]
  grind
theorem p_size (h : NowI w x q A) (r : Int) : Ex pro (d + 2) 103 w [rV x, iV r] = some (some (iV (if isR A r then nA A r else -1)), w) := by
  refine xX11_size (Rn.ret ?_)
  rw [eX11_size_0, if_pos h.1, if_pos h.k8]
  by_cases c : isR A r
  · rw [h.yes c, if_neg (h.nz c), if_pos (h.k5 c), (h.at c).2.1, if_pos c]
  · rw [h.no c, if_pos rfl, if_neg c]
theorem p_bit (h : NowI w x q A) (r i : Int) : Ex pro (d + 2) 104 w [rV x, iV r, iV i] = some (some (iV (if isR A r then (if 0 ≤ i ∧ i < nA A r then bA A r i else -1) else -1)), w) := by
  refine xX11_bit (Rn.ret ?_)
  rw [eX11_bit_0, if_pos h.1, if_pos h.k8]
  by_cases c : isR A r
  · rw [h.yes c, if_neg (h.nz c), if_pos (h.k5 c), s_bitAt (h.at c), if_pos c]
    simp only [bI, ite10]
  · rw [h.no c, if_pos rfl, if_neg c]
theorem p_rank (h : NowI w x q A) (r i b : Int) : Ex pro (d + 3) 105 w [rV x, iV r, iV i, iV b] = some (some (iV (if isR A r ∧ (b = 0 ∨ b = 1) ∧ 0 ≤ i ∧ i ≤ nA A r then cnt (bA A r) b 0 i.toNat else -1)), w) := by
  refine xX11_rank (Rn.ret ?_)
  rw [eX11_rank_0, if_pos h.1, if_pos h.k8]
  by_cases c : isR A r
  · rw [h.yes c, if_neg (h.nz c), p_isBit]
    simp only [bI, ite10]
    by_cases cb : b = 0 ∨ b = 1
    · rw [if_pos cb, if_pos (h.k5 c), s_hasGap (h.at c)]
      simp only [ite10]
      by_cases ci : 0 ≤ i ∧ i ≤ nA A r
      · have n6 := (h.lv c).2.1
        rw [if_pos ci, if_pos (h.k5 c), s_countIn (h.at c) (by unfold in32; omega), if_pos (by omega), if_pos ⟨c, cb, ci⟩]
      · rw [if_neg ci, if_neg (fun z => ci z.2.2)]
    · rw [if_neg cb, if_neg (fun z => cb z.2.1)]
  · rw [h.no c, if_pos rfl, if_neg (fun z => c z.1)]
theorem p_select (h : NowI w x q A) (r k b : Int) : Ex pro (d + 2) 107 w [rV x, iV r, iV k, iV b] = some (some (iV (if isR A r ∧ (b = 0 ∨ b = 1) ∧ 0 ≤ k then sel (bA A r) b k 0 0 (nA A r).toNat else -1)), w) := by
  refine xX11_select (Rn.ret ?_)
  rw [eX11_select_0, if_pos h.1, if_pos h.k8]
  by_cases c : isR A r
  · rw [h.yes c, if_neg (h.nz c), p_isBit]
    simp only [bI, ite10]
    by_cases cb : b = 0 ∨ b = 1
    · rw [if_pos cb]
      by_cases ci : k < 0
      · rw [if_pos ci, if_neg (fun z => by omega)]
      · rw [if_neg ci, if_pos (h.k5 c), s_placeOf (h.at c), if_pos ⟨c, cb, by omega⟩]
    · rw [if_neg cb, if_neg (fun z => cb z.2.1)]
  · rw [h.no c, if_pos rfl, if_neg (fun z => c z.1)]
theorem p_find (h : NowI w x q A) (r i b : Int) : Ex pro (d + 2) 108 w [rV x, iV r, iV i, iV b] = some (some (iV (if isR A r ∧ (b = 0 ∨ b = 1) ∧ 0 ≤ i then nxt (bA A r) b i (nA A r - i).toNat else -1)), w) := by
  refine xX11_find (Rn.ret ?_)
  rw [eX11_find_0, if_pos h.1, if_pos h.k8]
  by_cases c : isR A r
  · rw [h.yes c, if_neg (h.nz c), p_isBit]
    simp only [bI, ite10]
    by_cases cb : b = 0 ∨ b = 1
    · rw [if_pos cb]
      by_cases ci : i < 0
      · rw [if_pos ci, if_neg (fun z => by omega)]
      · rw [if_neg ci, if_pos (h.k5 c), s_nextPlace (h.at c) (by omega), if_pos ⟨c, cb, by omega⟩]
    · rw [if_neg cb, if_neg (fun z => cb z.2.1)]
  · rw [h.no c, if_pos rfl, if_neg (fun z => c z.1)]
theorem p_runs (h : NowI w x q A) (r : Int) : Ex pro (d + 2) 109 w [rV x, iV r] = some (some (iV (if isR A r then runF (bA A r) (nA A r) else -1)), w) := by
  refine xX11_runs (Rn.ret ?_)
  rw [eX11_runs_0, if_pos h.1, if_pos h.k8]
  by_cases c : isR A r
  · rw [h.yes c, if_neg (h.nz c), if_pos (h.k5 c), s_runCount (h.at c), if_pos c]
    simp only [bI, ite10]
  · rw [h.no c, if_pos rfl, if_neg c]
theorem p_longest (h : NowI w x q A) (r b : Int) : Ex pro (d + 2) 110 w [rV x, iV r, iV b] = some (some (iV (if isR A r ∧ (b = 0 ∨ b = 1) then lng (bA A r) b 0 0 0 (nA A r).toNat else -1)), w) := by
  refine xX11_longest (Rn.ret ?_)
  rw [eX11_longest_0, if_pos h.1, if_pos h.k8]
  by_cases c : isR A r
  · rw [h.yes c, if_neg (h.nz c), p_isBit]
    simp only [bI, ite10]
    by_cases cb : b = 0 ∨ b = 1
    · rw [if_pos cb, if_pos (h.k5 c), s_longestRun (h.at c), if_pos ⟨c, cb⟩]
    · rw [if_neg cb, if_neg (fun z => cb z.2)]
  · rw [h.no c, if_pos rfl, if_neg (fun z => c z.1)]
theorem p_word (h : NowI w x q A) (r i : Int) : Ex pro (d + 3) 111 w [rV x, iV r, iV i] = some (if isR A r ∧ 0 ≤ i ∧ i ≤ nA A r then (some (iV (wrd (bA A r) (nA A r) 0 i 32)), w) else (some (rV (-7)), bp w 1 6)) := by
  refine xX11_word (Rn.ret ?_)
  rw [eX11_word_0, if_pos h.1, if_pos h.k8]
  by_cases c : isR A r
  · rw [h.yes c, if_neg (h.nz c), if_pos (h.k5 c), s_hasGap (h.at c)]
    simp only [bI, ite10]
    by_cases ci : 0 ≤ i ∧ i ≤ nA A r
    · rw [if_pos ci, if_pos (h.k5 c), s_wordFrom (h.at c) ci.1 ci.2, if_pos ⟨c, ci⟩]
    · rw [if_neg ci, if_neg (fun z => ci z.2)]
  · rw [h.no c, if_pos rfl, if_neg (fun z => c z.1)]
theorem p_leaves (h : NowI w x q A) (r : Int) : Ex pro (d + 2) 112 w [rV x, iV r] = some (some (iV (if isR A r then kA A r else -1)), w) := by
  refine xX11_leaves (Rn.ret ?_)
  rw [eX11_leaves_0, if_pos h.1, if_pos h.k8]
  by_cases c : isR A r
  · rw [h.yes c, if_neg (h.nz c), if_pos (h.k5 c), (h.at c).2.2.1, if_pos c]
  · rw [h.no c, if_pos rfl, if_neg c]
theorem p_leaf (h : NowI w x q A) (r k e : Int) : Ex pro (d + 3) 113 w [rV x, iV r, iV k, iV e] = some (some (iV (leafF A r k e)), w) := by
  refine xX11_leaf (Rn.ret ?_)
  rw [eX11_leaf_0, if_pos h.1, if_pos h.k8]
  unfold leafF
  by_cases c : isR A r
  · have a := h.at c
    have k15 := a.2.2.2.2.1
    rw [h.yes c, if_neg (h.nz c), if_pos (h.k5 c), if_pos (h.k5 c), if_pos (h.k5 c), if_pos (h.k5 c), a.2.2.1]
    by_cases c1 : k < 0
    · rw [if_pos c1, if_neg (fun z => by omega)]
    · rw [if_neg c1]
      by_cases c2 : k < kA A r
      · have n6 := (h.lv c).2.1
        have e1 := a.2.2.2.2.2.2 k (by omega) c2
        have b := h.l10 c k (by omega) c2
        have pn := psm_n (h.lv c) (by omega) c2
        have em : minI k (kA A r) = k := by unfold minI; rw [if_neg (by omega)]
        have hg : kd w (q + 5 + 3 * r + 2) = 20 ∧ 0 ≤ k ∧ k < ln w (q + 5 + 3 * r + 2) := ⟨a.1.2.2.2.2.2.1, by omega, by rw [a.1.2.2.2.2.2.2.1]; omega⟩
        have ls := s_leafStart (d := d + 1) a (h.l10 c) k
        rw [em] at ls
        have cn := s_countIn (d := d) a (i := psm (lA A r) 0 k.toNat) (m := lA A r k) (v := 1) (by unfold in32; omega)
        rw [if_pos (by omega)] at cn
        rw [if_pos c2, if_pos (show k < 152 by omega), if_pos (show isR A r ∧ 0 ≤ k ∧ k < kA A r from ⟨c, by omega, c2⟩), a.1.2.2.1, if_pos hg, e1, ls]
        simp only [bI]
        rw [if_pos (h.k5 c), if_pos (h.k5 c), a.1.2.2.1, if_pos hg, e1, cn]
        simp only []
        by_cases z0 : e = 0
        · rw [if_pos z0, if_pos z0]
        · rw [if_neg z0, if_neg z0]
          by_cases z1 : e = 1
          · rw [if_pos z1, if_pos z1]
          · rw [if_neg z1, if_neg z1]
            by_cases z2 : e = 2
            · rw [if_pos z2, if_pos z2]
            · rw [if_neg z2, if_neg z2]
      · rw [if_neg c2, if_neg (fun z => c2 z.2.2)]
  · rw [h.no c, if_pos rfl, if_neg (fun z => c z.1)]
theorem p_tree (h : NowI w x q A) (r e : Int) : Ex pro (d + 9) 114 w [rV x, iV r, iV e] = some (some (iV (treeF A r e)), w) := by
  refine xX11_tree (Rn.ret ?_)
  rw [eX11_tree_0, if_pos h.1, if_pos h.k8]
  unfold treeF
  by_cases c : isR A r
  · have a := h.at c
    have k15 := a.2.2.2.2.1
    rw [h.yes c, if_neg (h.nz c), if_pos (h.k5 c), if_pos (h.k5 c), if_pos (h.k5 c), a.2.2.1, t_height (by omega), t_inner (by omega), t_mixed (by omega), t_cost a (h.l10 c), if_pos c]
    simp only [bI, ite10]
    by_cases c0 : e = 0
    · rw [if_pos c0, if_pos c0]
    · rw [if_neg c0, if_neg c0]
      by_cases c1 : e = 1
      · rw [if_pos c1, if_pos c1]
      · rw [if_neg c1, if_neg c1]
        by_cases c2 : e = 2
        · rw [if_pos c2, if_pos c2]
        · rw [if_neg c2, if_neg c2]
          by_cases c3 : e = 3
          · rw [if_pos c3, if_pos c3]
          · rw [if_neg c3, if_neg c3]
  · rw [h.no c, if_pos rfl, if_neg c]
theorem p_apart (h : NowI w x q A) (r s : Int) : Ex pro (d + 2) 118 w [rV x, iV r, iV s] = some (some (iV (apaF A r s)), w) := by
  refine xX11_apart (Rn.ret ?_)
  rw [eX11_apart_0, if_pos h.1, if_pos h.k8]
  unfold apaF
  by_cases c : isR A r
  · rw [h.yes c, if_pos h.1, if_pos h.k8]
    by_cases c2 : isR A s
    · rw [h.yes c2, if_neg (h.nz c), if_neg (h.nz c2), if_pos (h.k5 c), s_unlikeBits (h.at c) (h.at c2), if_pos ⟨c, c2⟩]
      simp only [bI, ite10]
    · rw [h.no c2, if_neg (h.nz c), if_pos rfl, if_neg (fun z => c2 z.2)]
  · rw [h.no c, if_pos h.1, if_pos h.k8, if_neg (fun z => c z.1)]
    by_cases c2 : isR A s
    · rw [h.yes c2, if_pos rfl]
    · rw [h.no c2, if_pos rfl]
theorem p_differ (h : NowI w x q A) (r s : Int) : Ex pro (d + 2) 119 w [rV x, iV r, iV s] = some (some (iV (if isR A r ∧ isR A s then difF (bA A r) (bA A s) (nA A r) (nA A s) else -1)), w) := by
  refine xX11_differ (Rn.ret ?_)
  rw [eX11_differ_0, if_pos h.1, if_pos h.k8]
  by_cases c : isR A r
  · rw [h.yes c, if_pos h.1, if_pos h.k8]
    by_cases c2 : isR A s
    · rw [h.yes c2, if_neg (h.nz c), if_neg (h.nz c2), if_pos (h.k5 c), s_firstUnlike (h.at c) (h.at c2), if_pos ⟨c, c2⟩]
      simp only [bI, ite10]
    · rw [h.no c2, if_neg (h.nz c), if_pos rfl, if_neg (fun z => c2 z.2)]
  · rw [h.no c, if_pos h.1, if_pos h.k8, if_neg (fun z => c z.1)]
    by_cases c2 : isR A s
    · rw [h.yes c2, if_pos rfl]
    · rw [h.no c2, if_pos rfl]
end CQ
