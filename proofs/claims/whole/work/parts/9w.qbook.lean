/-! ===== the reference's book, whole ===== -/
abbrev bkMM (m r j : Int) : Prop := (r = m ∧ (j = 0 ∨ (2 ≤ j ∧ j ≤ 13) ∨ j = 24 ∨ j = 32 ∨ j = 33)) ∨ r = m + 5 ∨ r = m + 6 ∨ r = m + 7 ∨ r = m + 13 ∨ r = m + 14 ∨ (r = m + 2 ∧ 2607 ≤ j ∧ j < 5820)
section QB
variable {d : Nat} {w : sW} {m : Int} {t : Int → Int} {n hk : Int} {A : Rm} {H : Int → Rm} {T : Int → Int}
theorem q_bookX {a1 : Int} (k : kd w m = 10) (h : ¬ (a1 = 0 ∨ a1 = 1)) : Ex pro (d + 2) 260 w [rV m, iV a1] = some (some (iV (-1000)), sv w m 0 0) := by
  refine xX12_book (Rn.ret ?_)
  rw [eX12_book_0, if_pos k, wl_eq, o_isIn]
  simp only [bI, ite10]
  rw [if_neg (by omega)]
/-- up to the lines -/
theorem l_mbook0 {a1 : Int} (h : MSh w m) (hN : NmM w m A) (hT : TpI w m 1 2 (m + 1) t n) (ha : a1 = 0 ∨ a1 = 1) : ∃ w5, (∀ res, Rn (Ex pro (d + 7)) mX12_book (30, [some (rV m), some (iV a1), none, none], [], w5) res → Ex pro (d + 8) 260 w [rV m, iV a1] = some res) ∧ RdM w5 m t n 400 0 ∧ gv w5 m 10 = 0 ∧ TpI w5 m 1 2 (m + 1) t 0 ∧ LiM w5 m 0 bL0 ∧ NmM w5 m A ∧ Mf w w5 (fun r j => r = m ∧ (j = 0 ∨ (2 ≤ j ∧ j ≤ 12) ∨ j = 32)) := by
  have m0 := Mf.svI w m 0 0
  have hn := hT.2.2.1
  obtain ⟨w4, a1', a2, a3, a4, a5⟩ := o_begin (d := d + 4) (most := 400) (w := sv w m 0 0) h.1.1 (hT.mf m0 (by omega) (by omega) (fun j => by omega)) (by omega)
  have m5 := Mf.svI w4 m 32 0
  have mm : Mf w (sv w4 m 32 0) (fun r j => r = m ∧ (j = 0 ∨ (2 ≤ j ∧ j ≤ 12) ∨ j = 32)) := (m0.trans (a5.trans m5)).mono (fun r j z => by omega)
  refine ⟨sv w4 m 32 0, fun res g => xX12_book (Rn.cut ?_ g), a2.mf m5 (fun j z => by omega) (fun j => by omega), by rw [m5.gvE (by omega)]; exact a3, a4.mf m5 (by omega) (by omega) (fun j => by omega), ⟨gvSS _ _ _ _, by omega, fun i i0 i1 => by omega⟩, hN.mf mm (fun j z => by omega) (by omega) (fun j => by omega), mm⟩
  rw [eX12_book_0, if_pos h.1.1, wl_eq, o_isIn]
  simp only [bI, ite10]
  rw [if_pos (by omega), if_pos (show kd (sv w m 0 0) m = 10 from h.1.1), a1']
  simp only [bN]
  rw [if_pos a2.1.1.1, wl_eq]
theorem q_bookN {a1 : Int} (h : MSh w m) (hA : MoI w m A) (hN : NmM w m A) (hh : HsM w m hk H) (hT : TpI w m 1 2 (m + 1) t n) (hM : MtI w m T) (ha : a1 = 0 ∨ a1 = 1) (e : (bkFa t n A).1 ≠ 0) : ∃ w', Ex pro (d + 8) 260 w [rV m, iV a1] = some (some (iV (w32 (-2 - (bkFa t n A).2.1))), w') ∧ MoI w' m A ∧ HsM w' m hk H ∧ TpI w' m 1 2 (m + 1) t 0 ∧ MtI w' m T ∧ gv w' m 10 = (bkFa t n A).1 ∧ Mf w w' (bkMM m) := by
  obtain ⟨w5, a1', a2, a3, a4, a5, a6, a7⟩ := l_mbook0 (d := d) h hN hT ha
  obtain ⟨w6, b1, b2, b3⟩ := l_mblines (d := d + 2) (t := t) (n := n) (most := 400) (A := A) (a1 := a1) 41 0 0 w5 bL0 (by omega) (by omega) a6 a2 a3 a5
  have mm : Mf w w6 (fun r j => (r = m ∧ (j = 0 ∨ (2 ≤ j ∧ j ≤ 13) ∨ j = 32)) ∨ r = m + 13) := (a7.trans b3).mono (fun r j z => by omega)
  obtain ⟨b4, b5⟩ := b1 e
  exact ⟨w6, a1' _ b4, hA.mf mm (by omega) (fun j hj => by omega), hh.mf mm (by omega) (fun j => by omega), a4.mf b3 (by omega) (by omega) (fun j => by omega), hM.mf mm (by omega) (fun j => by omega), b5.1, mm.mono (fun r j z => by omega)⟩
theorem q_bookY {a1 : Int} (h : MSh w m) (hA : MoI w m A) (hN : NmM w m A) (hh : HsM w m hk H) (hT : TpI w m 1 2 (m + 1) t n) (ha : a1 = 0 ∨ a1 = 1) (e : (bkFa t n A).1 = 0) : ∃ w', Ex pro (d + 8) 260 w [rV m, iV a1] = some (some (iV (bkY t n A)), w') ∧ MoI w' m (if bkO t n A a1 then (bkDa t n A).2.2 else A) ∧ HsM w' m (if bkO t n A a1 then pushK hk else hk) (if bkO t n A a1 then pushH hk H A else H) ∧ TpI w' m 1 2 (m + 1) t 0 ∧ MtI w' m (bkT t n A) ∧ gv w' m 10 = 0 ∧ Mf w w' (bkMM m) := by
  obtain ⟨w5, a1', a2, a3, a4, a5, a6, a7⟩ := l_mbook0 (d := d) h hN hT ha
  obtain ⟨w6, b1, b2, b3⟩ := l_mblines (d := d + 2) (t := t) (n := n) (most := 400) (A := A) (a1 := a1) 41 0 0 w5 bL0 (by omega) (by omega) a6 a2 a3 a5
  have mm : Mf w w6 (fun r j => (r = m ∧ (j = 0 ∨ (2 ≤ j ∧ j ≤ 13) ∨ j = 32)) ∨ r = m + 13) := (a7.trans b3).mono (fun r j z => by omega)
  obtain ⟨b4, b5, b6, b7⟩ := b2 e
  have M6 := h.mf mm (fun j z => by omega)
  have A6 := hA.mf mm (by omega) (fun j hj => by omega)
  have H6 := hh.mf mm (by omega) (fun j => by omega)
  have q7 := M6.2.2.2.2.2.2.2.1
  have sv1 := o_save (d := d + 6) (w := w6) A6.1 (N := m + 7) (f := 0) ⟨q7.2.1, by have := h.1.2; omega, by rw [q7.2.2]; omega, by rw [q7.2.2]; omega⟩ (by omega) (by omega) (by omega)
  have m7 := Mf.saI w6 (m + 7) (fun x => if 0 ≤ x ∧ x < 0 + 3213 then gv w6 (m + 2) (2607 + (x - 0)) else gv w6 (m + 7) x)
  have s7 : SnI (gv (sa w6 (m + 7) (fun x => if 0 ≤ x ∧ x < 0 + 3213 then gv w6 (m + 2) (2607 + (x - 0)) else gv w6 (m + 7) x)) (m + 7)) 0 A := SnI.mk A6.2 (fun x x0 x1 => by
    rw [gvA, if_pos rfl, if_pos (by omega)]
    congr 1
    omega)
  generalize sa w6 (m + 7) (fun x => if 0 ≤ x ∧ x < 0 + 3213 then gv w6 (m + 2) (2607 + (x - 0)) else gv w6 (m + 7) x) = w7 at sv1 m7 s7
  have M7 := M6.mf m7 (fun j z => by omega)
  have A7 := A6.mf m7 (by omega) (fun j hj => by omega)
  have H7 := H6.mf m7 (by omega) (fun j => by omega)
  have L7 := b7.mf m7 (by omega) (fun j hj => by omega)
  have gd := bkF_good (t := t) (n := n) (most := 400) (A := A) hA.2.2.2.1.1 41 0 0 bL0 e (fun i i0 i1 => by omega)
  obtain ⟨w8, c1, c2, c3, c4⟩ := l_mblive (d := d) (a1 := a1) (m := m) 41 0 w7 A (by omega) (by omega) L7.2.1.1 M7 A7 L7 gd
  have kp := bkD_keep (c := (bkFa t n A).2.2.1) (L := (bkFa t n A).2.2.2) 41 0 A
  have M8 := M7.mf c4 (fun j z => by omega)
  have H8 := H7.mf c4 (by omega) (fun j => by omega)
  have S8 : SnI (gv w8 (m + 7)) 0 A := by rw [show gv w8 (m + 7) = gv w7 (m + 7) from funext fun y => c4.gvE (by omega)]; exact s7
  have L8 := L7.mf c4 (by omega) (fun j hj => by omega)
  have hx : (bkDa t n A).1 < (bkFa t n A).2.2.1 → (bkDa t n A).2.1 ≠ 0 := fun y z => by
    have := c3 z
    change (bkDa t n A).1 = _ at this
    change (bkDa t n A).1 = (bkFa t n A).2.2.1 at this
    omega
  obtain ⟨w9, e1, e2, e3, e4, e5⟩ := l_mbtail (d := d + 3) (a1 := a1) (a2 := (bkDa t n A).1) (a3 := (bkDa t n A).2.1) M8 c2 H8 S8 kp.1.symm kp.2.1.symm L8.1 hx
  have m68 : Mf w6 w8 (fun r j => r = m + 7 ∨ (r = m + 2 ∧ 2607 ≤ j ∧ j < 5820)) := (m7.trans c4)
  have m69 : Mf w6 w9 (fun r j => r = m + 7 ∨ (r = m + 2 ∧ 2607 ≤ j ∧ j < 5820) ∨ bkTl m r j) := (m68.trans e5).mono (fun r j z => by omega)
  have g30 : Rn (Ex pro (d + 7)) mX12_book (30, [some (rV m), some (iV a1), none, none], [], w6) (some (iV (bkY t n A)), w9) := by
    refine Rn.cut ?_ (c1 _ e1)
    have k6 := M6.1.1
    rw [eX12_book_30, if_pos k6, b5, if_pos rfl, if_pos k6, if_pos k6, q7.1, sv1]
    simp only [bN]
  refine ⟨w9, a1' _ (b4 _ g30), e2, e3, (a4.mf b3 (by omega) (by omega) (fun j => by omega)).mf m69 (by omega) (by omega) (fun j => by omega), Or.inr ⟨e4.1, fun i i0 i1 => ?_⟩, by rw [m69.gvE (by omega)]; exact b6, (mm.trans m69).mono (fun r j z => by omega)⟩
  unfold bkT
  have hi : i = 0 ∨ i = 1 ∨ i = 2 ∨ i = 3 := by omega
  rcases hi with z | z | z | z <;> subst z
  · rw [if_pos rfl]; exact e4.2.1
  · rw [if_neg (by omega), if_pos rfl]; exact e4.2.2.1
  · rw [if_neg (by omega), if_neg (by omega), if_pos rfl]; exact e4.2.2.2.1
  · rw [if_neg (by omega), if_neg (by omega), if_neg (by omega)]; exact e4.2.2.2.2
theorem q_told (h : MSh w m) (hM : MtI w m T) (e : Int) : Ex pro (d + 2) 262 w [rV m, iV e] = some (some (iV (if 0 ≤ e ∧ e < 4 then T e else -1)), sv w m 0 0) := by
  have k := h.1.1
  have q14 := h.2.2.2.2.2.2.2.2.2.2.2.2.2.2.1
  have m0 := Mf.svI w m 0 0
  have k0 : kd (sv w m 0 0) m = 10 := k
  refine xX12_told (Rn.ret ?_)
  rw [eX12_told_0, if_pos k, wl_eq, if_pos k0]
  have h33 : gv (sv w m 0 0) m 33 = gv w m 33 := m0.gvE (by omega)
  rcases hM with ⟨a, b⟩ | ⟨a, b⟩
  · rw [h33, if_pos a]
    by_cases c : 0 ≤ e ∧ e < 4
    · rw [if_pos c, b e c.1 c.2]
    · rw [if_neg c]
  · rw [h33, if_neg (by omega), o_isIn]
    simp only [bI, ite10]
    by_cases c : 0 ≤ e ∧ e < 4
    · have p : gv (sv w m 0 0) m 31 = m + 14 := by rw [m0.gvE (by omega)]; exact q14.1
      rw [if_pos (by omega), if_pos c, if_pos k0, p, if_pos ⟨q14.2.1, c.1, by rw [show ln (sv w m 0 0) (m + 14) = 4 from q14.2.2]; omega⟩, m0.gvE (by omega), b e c.1 c.2]
    · rw [if_neg (by omega), if_neg c]
theorem p_told (k : kd w 32 = 9) (h : BkI w T) (e : Int) : Ex pro (d + 1) 143 w [rV 32, iV e] = some (some (iV (if 0 ≤ e ∧ e < 4 then T e else -1)), w) := by
  obtain ⟨h1, ⟨f1, f2, f3⟩, h3⟩ := h
  refine xX11_told (Rn.ret ?_)
  rw [eX11_told_0]
  by_cases c0 : e < 0
  · rw [if_pos c0, if_neg (by omega)]
  · rw [if_neg c0, if_pos k, f1, if_pos (by omega), f3]
    by_cases c1 : e < 4
    · rw [if_pos c1, if_pos k, if_pos ⟨f2, by omega, c1⟩, if_pos (by omega), h3 e (by omega) c1]
    · rw [if_neg c1, if_neg (by omega)]
theorem q_fault (k : kd w m = 10) : Ex pro (d + 1) 179 w [rV m] = some (some (iV (gv w m 10)), sv w m 0 0) := by
  refine xX12_fault (Rn.ret ?_)
  rw [eX12_fault_0, if_pos k, wl_eq, if_pos (show kd (sv w m 0 0) m = 10 from k), (Mf.svI w m 0 0).gvE (by omega)]
theorem p_fault (k : kd w 32 = 9) : Ex pro (d + 1) 102 w [rV 32] = some (some (iV (gv w 32 13)), w) := by
  refine xX11_fault (Rn.ret ?_)
  rw [eX11_fault_0, if_pos k]
end QB
