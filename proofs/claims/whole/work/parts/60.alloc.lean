/-! ===== objects that stay as they are; new objects ===== -/
/-- the objects lo .. hi are in w' as in w -/
def EqO (w w' : sW) (lo hi : Int) : Prop := ∀ r, lo ≤ r → r ≤ hi → w'.1 r = w.1 r ∧ ∀ j, gv w' r j = gv w r j
theorem EqO.kdE {w w' : sW} {lo hi r : Int} (h : EqO w w' lo hi) (h1 : lo ≤ r) (h2 : r ≤ hi) : kd w' r = kd w r := by unfold kd; rw [(h r h1 h2).1]
theorem EqO.lnE {w w' : sW} {lo hi r : Int} (h : EqO w w' lo hi) (h1 : lo ≤ r) (h2 : r ≤ hi) : ln w' r = ln w r := by unfold ln; rw [(h r h1 h2).1]
theorem EqO.gvE {w w' : sW} {lo hi r : Int} (h : EqO w w' lo hi) (h1 : lo ≤ r) (h2 : r ≤ hi) (j : Int) : gv w' r j = gv w r j := (h r h1 h2).2 j
theorem EqO.mono {w w' : sW} {lo hi lo' hi' : Int} (h : EqO w w' lo hi) (h1 : lo ≤ lo') (h2 : hi' ≤ hi) : EqO w w' lo' hi' := fun r r1 r2 => h r (by omega) (by omega)
theorem EqO.trans {w w' w'' : sW} {lo hi : Int} (h : EqO w w' lo hi) (g : EqO w' w'' lo hi) : EqO w w'' lo hi := fun r r1 r2 => ⟨(g r r1 r2).1.trans (h r r1 r2).1, fun j => ((g r r1 r2).2 j).trans ((h r r1 r2).2 j)⟩
theorem EqO.refl (w : sW) (lo hi : Int) : EqO w w lo hi := fun _ _ _ => ⟨rfl, fun _ => rfl⟩
theorem Fr.eqO {w w' : sW} {lo hi a b : Int} (h : Fr w w' lo hi) (o : b < lo ∨ hi < a) : EqO w w' a b := fun r r1 r2 => ⟨by rw [h.1], fun j => h.2.2 r j (by omega)⟩
theorem RowSh.eq {w w' : sW} {a : Int} (h : RowSh w a) (e : EqO w w' a (a + 2)) : RowSh w' a := by
  obtain ⟨h1, h2, h3, h4, h5, h6, h7, h8⟩ := h
  unfold RowSh
  rw [e.kdE (by omega) (by omega), e.gvE (by omega) (by omega), e.gvE (by omega) (by omega), e.kdE (by omega) (by omega), e.lnE (by omega) (by omega), e.kdE (by omega) (by omega), e.lnE (by omega) (by omega)]
  exact ⟨h1, h2, h3, h4, h5, h6, h7, h8⟩
theorem RowA.eq {w w' : sW} {a n k : Int} {b l : Int → Int} (h : RowA w a n b k l) (e : EqO w w' a (a + 2)) : RowA w' a n b k l := by
  obtain ⟨h1, h2, h3, h4, h5⟩ := h
  refine ⟨h1.eq e, ?_, ?_, fun i i0 i1 => ?_, fun i i0 i1 => ?_⟩
  · rw [e.gvE (by omega) (by omega)]; exact h2
  · rw [e.gvE (by omega) (by omega)]; exact h3
  · rw [e.gvE (by omega) (by omega)]; exact h4 i i0 i1
  · rw [e.gvE (by omega) (by omega)]; exact h5 i i0 i1
theorem RowI.eq {w w' : sW} {a low : Int} {R : Rw} (h : RowI w a R low) (e : EqO w w' a (a + 2)) : RowI w' a R low := ⟨h.1.eq e, h.2.1, h.2.2⟩
theorem ScSh.eq {w w' : sW} {a : Int} (h : ScSh w a) (e : EqO w w' a (a + 1)) : ScSh w' a := by
  obtain ⟨h1, h2, h3, h4, h5⟩ := h
  unfold ScSh
  rw [e.kdE (by omega) (by omega), e.gvE (by omega) (by omega), e.kdE (by omega) (by omega), e.lnE (by omega) (by omega)]
  exact ⟨h1, h2, h3, h4, h5⟩
theorem ScI.eq {w w' : sW} {a : Int} {T : Int × (Int → Int)} (h : ScI w a T) (e : EqO w w' a (a + 1)) : ScI w' a T := by
  obtain ⟨h1, h2, h3, h4, h5⟩ := h
  refine ⟨h1.eq e, ?_, h3, fun i i0 i1 => ?_, h5⟩
  · rw [e.gvE (by omega) (by omega)]; exact h2
  · rw [e.gvE (by omega) (by omega)]; exact h4 i i0 i1
theorem StSh.eq {w w' : sW} {b : Int} (h : StSh w b) (e : EqO w w' b (b + 16)) : StSh w' b := by
  obtain ⟨⟨h1, h1', h1'', h1'''⟩, ⟨h2, h2'⟩, h3, ⟨h4, h4'⟩, h5, h6, h7⟩ := h
  refine ⟨⟨?_, ?_, ?_, ?_⟩, ⟨?_, ?_⟩, fun r r0 r1 => ?_, ⟨?_, ?_⟩, h5.eq (e.mono (by omega) (by omega)), fun r r0 r1 => (h6 r r0 r1).eq (e.mono (by omega) (by omega)), h7⟩
  · rw [e.kdE (by omega) (by omega)]; exact h1
  · rw [e.gvE (by omega) (by omega)]; exact h1'
  · rw [e.gvE (by omega) (by omega)]; exact h1''
  · rw [e.gvE (by omega) (by omega)]; exact h1'''
  · rw [e.kdE (by omega) (by omega)]; exact h2
  · rw [e.lnE (by omega) (by omega)]; exact h2'
  · rw [e.gvE (by omega) (by omega)]; exact h3 r r0 r1
  · rw [e.kdE (by omega) (by omega)]; exact h4
  · rw [e.lnE (by omega) (by omega)]; exact h4'
theorem StI.eq {w w' : sW} {b : Int} {A : Rm} (h : StI w b A) (e : EqO w w' b (b + 16)) : StI w' b A := by
  obtain ⟨h1, ⟨h2, h2'⟩, h3, h4, h5, h6, h7⟩ := h
  refine ⟨h1.eq e, ⟨?_, ?_⟩, h3, h4, fun r r0 r1 => ?_, fun r r0 r1 => (h6 r r0 r1).eq (e.mono (by omega) (by omega)), h7.eq (e.mono (by omega) (by omega))⟩
  · rw [e.gvE (by omega) (by omega)]; exact h2
  · rw [e.gvE (by omega) (by omega)]; exact h2'
  · rw [e.gvE (by omega) (by omega)]; exact h5 r r0 r1
theorem kdL (w : sW) (k l : Int) (s : Nat) (r : Int) : kd (al w k l s) r = if r = nx w then k else kd w r := by
  unfold kd al nx
  simp only []
  split <;> rfl
theorem lnL (w : sW) (k l : Int) (s : Nat) (r : Int) : ln (al w k l s) r = if r = nx w then l else ln w r := by
  unfold ln al nx
  simp only []
  split <;> rfl
theorem gvL (w : sW) (k l : Int) (s : Nat) (r j : Int) : gv (al w k l s) r j = if r = nx w then 0 else gv w r j := Eq.trans rfl rfl
theorem nxL (w : sW) (k l : Int) (s : Nat) : nx (al w k l s) = nx w + 1 := Eq.trans rfl rfl
theorem ucL (w : sW) (k l : Int) (s : Nat) : uc (al w k l s) = uc w + 1 := Eq.trans rfl rfl
theorem usL (w : sW) (k l : Int) (s : Nat) : us (al w k l s) = us w + s := Eq.trans rfl rfl
theorem nxS (w : sW) (r k v : Int) : nx (sv w r k v) = nx w := Eq.trans rfl rfl
theorem ucS (w : sW) (r k v : Int) : uc (sv w r k v) = uc w := Eq.trans rfl rfl
theorem usS (w : sW) (r k v : Int) : us (sv w r k v) = us w := Eq.trans rfl rfl
theorem EqO.al {w : sW} {k l : Int} {s : Nat} {lo hi : Int} (h : hi < nx w) : EqO w (al w k l s) lo hi := fun r r1 r2 => by
  refine ⟨?_, fun j => by rw [gvL, if_neg (by omega)]⟩
  show (if r = w.2.2.1 then (k, l) else w.1 r) = w.1 r
  rw [if_neg (by have : nx w = w.2.2.1 := rfl; omega)]
theorem EqO.sv {w : sW} {a k v lo hi : Int} (h : a < lo ∨ hi < a) : EqO w (sv w a k v) lo hi := fun r r1 r2 => ⟨rfl, fun j => by rw [gvS, if_neg (by omega)]⟩
section AL
variable {d : Nat} {w : sW}
theorem r_init {a : Int} (hk : kd w a = 5) (hn : nx w = a + 1) (ha : 32 ≤ a) : ∃ w', Ex pro (d + 1) 29 w [rV a] = some (none, w') ∧ RowSh w' a ∧ nx w' = a + 3 ∧ uc w' = uc w + 2 ∧ us w' = us w + 752 ∧ EqO w w' 0 (a - 1) := by
  refine ⟨sv (al (sv (al w 21 600 600) a 0 (a + 1)) 20 152 152) a 1 (a + 2), xX5_init (Rn.ret ?_), ?_, ?_, ?_, ?_, ?_⟩
  · rw [eX5_init_0]
    simp only [wl_eq, kdS, kdL, nxS, nxL, hn, hk]
    rw [show a + 1 + 1 = a + 2 by omega, show (600 : Int).toNat = 600 from rfl, show (152 : Int).toNat = 152 from rfl]
    grind
  · unfold RowSh
    simp only [kdS, kdL, lnS, lnL, gvS, gvL, nxS, nxL, hn, hk]
    grind
  · simp only [nxS, nxL, hn]; omega
  · simp only [ucS, ucL]
  · simp only [usS, usL]
  · exact ((EqO.al (by omega)).trans (EqO.sv (by omega))).trans ((EqO.al (by simp only [nxS, nxL]; omega)).trans (EqO.sv (by omega)))
theorem c_init {a : Int} (hk : kd w a = 6) (hn : nx w = a + 1) (ha : 32 ≤ a) (h0 : gv w a 1 = 0) : ∃ w', Ex pro (d + 1) 54 w [rV a] = some (none, w') ∧ ScI w' a (0, fun _ => 0) ∧ nx w' = a + 2 ∧ uc w' = uc w + 1 ∧ us w' = us w + 200 ∧ EqO w w' 0 (a - 1) := by
  refine ⟨sv (al w 21 200 200) a 0 (a + 1), xX6_init (Rn.ret ?_), ?_, ?_, ?_, ?_, ?_⟩
  · rw [eX6_init_0]
    simp only [wl_eq, kdS, kdL, nxS, nxL, hn, hk]
    rw [show (200 : Int).toNat = 200 from rfl]
    grind
  · unfold ScI ScSh
    simp only [kdS, kdL, lnS, lnL, gvS, gvL, nxS, nxL, hn, hk, h0]
    grind
  · simp only [nxS, nxL, hn]; omega
  · simp only [ucS, ucL]
  · simp only [usS, usL]
  · exact (EqO.al (by omega)).trans (EqO.sv (by omega))
end AL
