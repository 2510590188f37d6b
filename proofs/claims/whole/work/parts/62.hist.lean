/-! ===== what agrees; blocks of one's own; history ===== -/
/-- nothing but the cells P of old objects changed -/
def Ag (w w' : sW) (P : Int → Int → Prop) : Prop := nx w ≤ nx w' ∧ (∀ r, 0 ≤ r → r < nx w → w'.1 r = w.1 r) ∧ ∀ r j, 0 ≤ r → r < nx w → ¬ P r j → gv w' r j = gv w r j
theorem Ag.kdE {w w' : sW} {P : Int → Int → Prop} (h : Ag w w' P) {r : Int} (h0 : 0 ≤ r) (hr : r < nx w) : kd w' r = kd w r := by unfold kd; rw [h.2.1 r h0 hr]
theorem Ag.lnE {w w' : sW} {P : Int → Int → Prop} (h : Ag w w' P) {r : Int} (h0 : 0 ≤ r) (hr : r < nx w) : ln w' r = ln w r := by unfold ln; rw [h.2.1 r h0 hr]
theorem Ag.gvE {w w' : sW} {P : Int → Int → Prop} (h : Ag w w' P) {r j : Int} (h0 : 0 ≤ r) (hr : r < nx w) (hp : ¬ P r j) : gv w' r j = gv w r j := h.2.2 r j h0 hr hp
theorem Ag.eqO {w w' : sW} {P : Int → Int → Prop} {lo hi : Int} (h : Ag w w' P) (h0 : 0 ≤ lo) (hn : hi < nx w) (hp : ∀ r j, lo ≤ r → r ≤ hi → ¬ P r j) : EqO w w' lo hi := fun r r1 r2 => ⟨h.2.1 r (by omega) (by omega), fun j => h.2.2 r j (by omega) (by omega) (hp r j r1 r2)⟩
theorem Ag.trans {w w' w'' : sW} {P Q : Int → Int → Prop} (h : Ag w w' P) (g : Ag w' w'' Q) : Ag w w'' (fun r j => P r j ∨ Q r j) := ⟨by have := h.1; have := g.1; omega, fun r h0 hr => (g.2.1 r h0 (by have := h.1; omega)).trans (h.2.1 r h0 hr), fun r j h0 hr hp => (g.2.2 r j h0 (by have := h.1; omega) (fun z => hp (Or.inr z))).trans (h.2.2 r j h0 hr (fun z => hp (Or.inl z)))⟩
theorem Ag.mono {w w' : sW} {P Q : Int → Int → Prop} (h : Ag w w' P) (hp : ∀ r j, 0 ≤ r → r < nx w → P r j → Q r j) : Ag w w' Q := ⟨h.1, h.2.1, fun r j h0 hr hq => h.2.2 r j h0 hr (fun z => hq (hp r j h0 hr z))⟩
theorem Ag.refl (w : sW) (P : Int → Int → Prop) : Ag w w P := ⟨Int.le_refl _, fun _ _ _ => rfl, fun _ _ _ _ _ => rfl⟩
theorem Ag.sv (w : sW) (a k v : Int) : Ag w (sv w a k v) (fun r j => r = a ∧ j = k) := ⟨Int.le_refl _, fun _ _ _ => rfl, fun r j _ _ hp => by rw [gvS, if_neg hp]⟩
theorem EqO.ag {w w' : sW} (h : EqO w w' 0 (nx w - 1)) (hn : nx w ≤ nx w') : Ag w w' (fun _ _ => False) := ⟨hn, fun r h0 hr => (h r h0 (by omega)).1, fun r j h0 hr _ => (h r h0 (by omega)).2 j⟩
theorem Ag.al (w : sW) (k l : Int) (s : Nat) : Ag w (al w k l s) (fun _ _ => False) := EqO.ag (EqO.al (by omega)) (by rw [nxL]; omega)
theorem Fr.ag {w w' : sW} {lo hi : Int} (h : Fr w w' lo hi) : Ag w w' (fun r _ => lo ≤ r ∧ r ≤ hi) := ⟨by unfold nx; rw [h.2.1]; omega, fun r _ _ => by rw [h.1], fun r j _ _ hp => h.2.2 r j (by omega)⟩
theorem Fr.nxE {w w' : sW} {lo hi : Int} (h : Fr w w' lo hi) : nx w' = nx w := by unfold nx; rw [h.2.1]
theorem Fr.ucE {w w' : sW} {lo hi : Int} (h : Fr w w' lo hi) : uc w' = uc w := by unfold uc; rw [h.2.1]
theorem Fr.usE {w w' : sW} {lo hi : Int} (h : Fr w w' lo hi) : us w' = us w := by unfold us; rw [h.2.1]
/-- the blocks that were made later: 8 kept rooms, 2 rooms and 2 sentences of images -/
def ow (w : sW) (i : Int) : Int := if i < 8 then gv w 86 i else if i < 10 then gv w 87 (i - 8) else gv w 88 (i - 10)
abbrev sz (i : Int) : Int := if i < 10 then 16 else 4
def BkO (w : sW) : Prop := (∀ i, 0 ≤ i → i < 12 → ow w i = 0 ∨ (108 ≤ ow w i ∧ ow w i + sz i < nx w)) ∧ ∀ i j, 0 ≤ i → i < 12 → 0 ≤ j → j < 12 → i ≠ j → ow w i = 0 ∨ ow w j = 0 ∨ ow w i + sz i < ow w j ∨ ow w j + sz j < ow w i
def BkS (w : sW) : Prop := (∀ i, 0 ≤ i → i < 10 → ow w i = 0 ∨ StSh w (ow w i)) ∧ ∀ i, 10 ≤ i → i < 12 → ow w i = 0 ∨ SeSh w (ow w i)
theorem ow8 (w : sW) {i : Int} (h : i < 8) : ow w i = gv w 86 i := if_pos h
theorem ow_ag {w w' : sW} {P : Int → Int → Prop} (h : Ag w w' P) (hn : 108 ≤ nx w) {i : Int} (h8 : 0 ≤ i ∧ i < 12) (hp : ¬ P 86 i ∨ 8 ≤ i) (hp2 : ∀ j, ¬ P 87 j ∧ ¬ P 88 j) : ow w' i = ow w i := by
  unfold ow
  by_cases c : i < 8
  · rw [if_pos c, if_pos c, h.gvE (by omega) (by omega) (by rcases hp with z | z; exact z; omega)]
  · rw [if_neg c, if_neg c]
    by_cases c2 : i < 10
    · rw [if_pos c2, if_pos c2, h.gvE (by omega) (by omega) (hp2 _).1]
    · rw [if_neg c2, if_neg c2, h.gvE (by omega) (by omega) (hp2 _).2]
def HsI (w : sW) (hk : Int) (H : Int → Rm) : Prop := (kd w 85 = 3 ∧ gv w 85 0 = 86 ∧ kd w 86 = 25 ∧ ln w 86 = 8) ∧ gv w 85 2 = hk ∧ (0 ≤ hk ∧ hk ≤ 8) ∧ ∃ ol, gv w 85 1 = ol ∧ (0 ≤ ol ∧ ol < 8) ∧ ∀ i, 0 ≤ i → i < hk → gv w 86 ((ol + i) % 8) ≠ 0 ∧ StI w (gv w 86 ((ol + i) % 8)) (H i)
def pushK (hk : Int) : Int := if hk = 8 then 8 else hk + 1
def pushH (hk : Int) (H : Int → Rm) (A : Rm) : Int → Rm := fun i => if hk = 8 then (if i = 7 then A else H (i + 1)) else if i = hk then A else H i
/-- the second half of keep -/
def kpT (C : sC) (a1 k : Int) (w1 : sW) : Option sO :=
   if kd w1 85 = 3 then
   if (24 ≤ kd w1 (gv w1 85 0) ∧ kd w1 (gv w1 85 0) ≤ 27) ∧ 0 ≤ k ∧ k < ln w1 (gv w1 85 0) then
   if (gv w1 (gv w1 85 0) k) = 0 then
    (if kd w1 85 = 3 then
    wl (al w1 8 0 6) (fun w2 =>
    if kd w2 (nx w1) = 8 then
    bN (C 75 w2 [rV (nx w1)]) (fun w3 =>
    if ((kd w3 (gv w1 85 0) = 24 ∧ kd w3 (nx w1) = 5) ∨ (kd w3 (gv w1 85 0) = 25 ∧ kd w3 (nx w1) = 8) ∨ (kd w3 (gv w1 85 0) = 26 ∧ kd w3 (nx w1) = 7) ∨ (kd w3 (gv w1 85 0) = 27 ∧ kd w3 (nx w1) = 30 ∧ 32 ≤ (gv w1 85 0))) ∧ 0 ≤ k ∧ k < ln w3 (gv w1 85 0) then
    wl (sv w3 (gv w1 85 0) k (nx w1)) (fun w4 =>
    if kd w4 85 = 3 then
    if (24 ≤ kd w4 (gv w4 85 0) ∧ kd w4 (gv w4 85 0) ≤ 27) ∧ 0 ≤ k ∧ k < ln w4 (gv w4 85 0) then
    if kd w4 (gv w4 (gv w4 85 0) k) = 8 then
    bN (C 76 w4 [rV (gv w4 (gv w4 85 0) k), rV a1]) (fun w5 =>
    some (.inr (none, w5))) else none else none else none) else none) else none) else none)
   else
   if kd w1 85 = 3 then
   if (24 ≤ kd w1 (gv w1 85 0) ∧ kd w1 (gv w1 85 0) ≤ 27) ∧ 0 ≤ k ∧ k < ln w1 (gv w1 85 0) then
   if kd w1 (gv w1 (gv w1 85 0) k) = 8 then
   bN (C 76 w1 [rV (gv w1 (gv w1 85 0) k), rV a1]) (fun w6 =>
   some (.inr (none, w6))) else none else none else none else none else none
theorem eKeep (C : sC) (w : sW) (a1 : Int) : sg C mX3_keep 2000 0 [some (rV 85), some (rV a1), none] [] w = if kd w 85 = 3 then (if gv w 85 2 = 8 then kpT C a1 (Int.tmod (w32 ((gv w 85 1) + (gv w 85 2))) 8) (sv w 85 1 (Int.tmod (w32 ((gv w 85 1) + 1)) 8)) else kpT C a1 (Int.tmod (w32 ((gv w 85 1) + (gv w 85 2))) 8) (sv w 85 2 (w32 ((gv w 85 2) + 1)))) else none := by
  rw [eX3_keep_0]
  by_cases c : kd w 85 = 3
  · simp only [c, if_true, show ¬ (8 : Int) = 0 by decide, if_false, wl_eq]
    rfl
  · simp only [c, if_false]
section HI
variable {d : Nat} {w : sW}
theorem l_keepT {q k : Int} {A : Rm} (h1 : kd w 85 = 3 ∧ gv w 85 0 = 86 ∧ kd w 86 = 25 ∧ ln w 86 = 8) (hk : 0 ≤ k ∧ k < 8) (b : BkO w) (s : BkS w) (hq : StI w q A) (q36 : q = 36 ∨ q = 53) (hn : 108 ≤ nx w) : ∃ w', kpT (Ex pro (d + 2)) q k w = some (.inr (none, w')) ∧ gv w' 86 k ≠ 0 ∧ StI w' (gv w' 86 k) A ∧ BkO w' ∧ BkS w' ∧ Ag w w' (fun r j => (r = 86 ∧ j = k) ∨ (gv w 86 k ≠ 0 ∧ gv w 86 k ≤ r ∧ r ≤ gv w 86 k + 16)) ∧ uc w' ≤ uc w + 17 ∧ us w' ≤ us w + 3240 := by
  obtain ⟨k1, k2, k3, k4⟩ := h1
  have g1 : (24 ≤ kd w 86 ∧ kd w 86 ≤ 27) ∧ 0 ≤ k ∧ k < ln w 86 := by omega
  by_cases c : gv w 86 k = 0
  · have e1 : EqO w (al w 8 0 6) 0 (nx w - 1) := EqO.al (by omega)
    obtain ⟨w3, a1, a2, a3, a4, a5, a6⟩ := st_init (d := d) (w := al w 8 0 6) (s := nx w) (by omega) (by rw [kdL, if_pos rfl]) (by rw [nxL]) (by rw [gvL, if_pos rfl])
    have ag3 : Ag w w3 (fun _ _ => False) := (e1.trans a6).ag (by omega)
    have e3 : EqO w3 (sv w3 86 k (nx w)) 87 (nx w + 16) := EqO.sv (by omega)
    have ag4 : Ag w (sv w3 86 k (nx w)) (fun r j => r = 86 ∧ j = k) := (ag3.trans (Ag.sv w3 86 k (nx w))).mono (fun r j _ _ z => z.elim False.elim id)
    have h4 : StSh (sv w3 86 k (nx w)) (nx w) := a2.1.eq (e3.mono (by omega) (by omega))
    have hq4 : StI (sv w3 86 k (nx w)) q A := hq.eq (ag4.eqO (by omega) (by omega) (by omega))
    obtain ⟨w5, b1, b2, b3⟩ := m_copyFrom (d := d) (w := sv w3 86 k (nx w)) (q := nx w) (q' := q) (by omega) h4 hq4
    have ag : Ag w w5 (fun r j => r = 86 ∧ j = k) := (ag4.trans b2.ag).mono (fun r j r0 r1 z => by
      rcases z with z | z
      · exact z
      · have z' : nx w ≤ r ∧ r ≤ nx w + 16 := z
        omega)
    have n5 : nx w5 = nx w + 17 := by rw [b2.nxE, nxS]; omega
    have g5 : gv w5 86 k = nx w := by rw [b2.2.2 _ _ (by omega), gvSS]
    have o5 : ∀ i, 0 ≤ i → i < 12 → i ≠ k → ow w5 i = ow w i := fun i i0 i1 i2 => ow_ag ag hn ⟨i0, i1⟩ (by omega) (fun j => by omega)
    have o5k : ow w5 k = nx w := by rw [ow8 w5 hk.2, g5]
    refine ⟨w5, ?_, by rw [g5]; omega, by rw [g5]; exact b3, ⟨fun i i0 i1 => ?_, fun i j i0 i1 j0 j1 ij => ?_⟩, ⟨fun i i0 i1 => ?_, fun i i0 i1 => ?_⟩, ag.mono (fun r j r0 r1 z => Or.inl z), ?_, ?_⟩
    · unfold kpT
      rw [k2, if_pos k1, if_pos g1, if_pos c, if_pos k1, wl_eq, if_pos (by rw [kdL, if_pos rfl]), a1]
      simp only [bN]
      have z1 : kd w3 86 = 25 := by rw [ag3.kdE (by omega) (by omega)]; exact k3
      have z2 : ln w3 86 = 8 := by rw [ag3.lnE (by omega) (by omega)]; exact k4
      have z3 : kd (sv w3 86 k (nx w)) 85 = 3 := by rw [ag4.kdE (by omega) (by omega)]; exact k1
      have z4 : gv (sv w3 86 k (nx w)) 85 0 = 86 := by rw [ag4.gvE (by omega) (by omega) (by omega)]; exact k2
      have z5 : kd (sv w3 86 k (nx w)) 86 = 25 := by rw [ag4.kdE (by omega) (by omega)]; exact k3
      have z6 : ln (sv w3 86 k (nx w)) 86 = 8 := by rw [ag4.lnE (by omega) (by omega)]; exact k4
      rw [if_pos ⟨Or.inr (Or.inl ⟨z1, a2.1.1.1⟩), by omega, by omega⟩, wl_eq, if_pos z3, z4, if_pos (by omega), gvSS, if_pos h4.1.1, b1]
    · by_cases ik : i = k
      · subst ik
        have : sz i = 16 := if_pos (by omega)
        omega
      · rw [o5 i i0 i1 ik]
        have := b.1 i i0 i1
        omega
    · by_cases ik : i = k
      · subst ik
        rw [o5 j j0 j1 (by omega), o5k]
        have := b.1 j j0 j1
        omega
      · by_cases jk : j = k
        · subst jk
          rw [o5 i i0 i1 ik, o5k]
          have := b.1 i i0 i1
          omega
        · rw [o5 i i0 i1 ik, o5 j j0 j1 jk]
          exact b.2 i j i0 i1 j0 j1 ij
    · by_cases ik : i = k
      · subst ik
        rw [o5k]
        exact Or.inr b3.1
      · rw [o5 i i0 (by omega) ik]
        have z := b.1 i i0 (by omega)
        have zz : sz i = 16 := if_pos (by omega)
        rcases s.1 i i0 i1 with y | y
        · exact Or.inl y
        · refine Or.inr (y.eq (ag.eqO ?_ ?_ ?_))
          · have := y.2.2.2.2.2.2; omega
          · have := y.2.2.2.2.2.2; omega
          · intro r j r1 r2 z'
            have := y.2.2.2.2.2.2; omega
    · rw [o5 i (by omega) i1 (by omega)]
      have z := b.1 i (by omega) i1
      have zz : sz i = 4 := if_neg (by omega)
      rcases s.2 i i0 i1 with y | y
      · exact Or.inl y
      · refine Or.inr (y.eq (ag.eqO ?_ ?_ ?_))
        · have := y.2.2.2.2.2; omega
        · have := y.2.2.2.2.2; omega
        · intro r j r1 r2 z'
          have := y.2.2.2.2.2; omega
    · rw [b2.ucE, ucS, a4, ucL]; omega
    · rw [b2.usE, usS, a5, usL]; omega
  · have ok : ow w k = gv w 86 k := ow8 w hk.2
    have zk : sz k = 16 := if_pos (by omega)
    have bk := b.1 k hk.1 (by omega)
    have sk : StSh w (gv w 86 k) := by
      rcases s.1 k hk.1 (by omega) with y | y
      · rw [ok] at y; exact absurd y c
      · rw [ok] at y; exact y
    obtain ⟨w5, b1, b2, b3⟩ := m_copyFrom (d := d) (w := w) (q := gv w 86 k) (q' := q) (by omega) sk hq
    have ag := b2.ag
    have g5 : gv w5 86 k = gv w 86 k := ag.gvE (by omega) (by omega) (by omega)
    have o5 : ∀ i, 0 ≤ i → i < 12 → ow w5 i = ow w i := fun i i0 i1 => ow_ag ag hn ⟨i0, i1⟩ (by omega) (fun j => by omega)
    refine ⟨w5, ?_, by rw [g5]; exact c, by rw [g5]; exact b3, ⟨fun i i0 i1 => ?_, fun i j i0 i1 j0 j1 ij => ?_⟩, ⟨fun i i0 i1 => ?_, fun i i0 i1 => ?_⟩, ag.mono (fun r j r0 r1 z => Or.inr ⟨c, z⟩), by rw [b2.ucE]; omega, by rw [b2.usE]; omega⟩
    · unfold kpT
      rw [k2, if_pos k1, if_pos g1, if_neg c, if_pos k1, if_pos g1, if_pos sk.1.1, b1]
      simp only [bN]
    · rw [o5 i i0 i1, b2.nxE]; exact b.1 i i0 i1
    · rw [o5 i i0 i1, o5 j j0 j1]; exact b.2 i j i0 i1 j0 j1 ij
    · by_cases ik : i = k
      · subst ik
        rw [o5 i i0 (by omega), ok]
        exact Or.inr b3.1
      · rw [o5 i i0 (by omega)]
        have z := b.1 i i0 (by omega)
        have zb := b.2 i k i0 (by omega) hk.1 (by omega) ik
        have zz : sz i = 16 := if_pos (by omega)
        rcases s.1 i i0 i1 with y | y
        · exact Or.inl y
        · refine Or.inr (y.eq (ag.eqO ?_ ?_ ?_))
          · have := y.2.2.2.2.2.2; omega
          · have := y.2.2.2.2.2.2; omega
          · intro r j r1 r2 z'
            have := y.2.2.2.2.2.2; omega
    · rw [o5 i (by omega) i1]
      have z := b.1 i (by omega) i1
      have zb := b.2 i k (by omega) i1 hk.1 (by omega) (by omega)
      have zz : sz i = 4 := if_neg (by omega)
      rcases s.2 i i0 i1 with y | y
      · exact Or.inl y
      · refine Or.inr (y.eq (ag.eqO ?_ ?_ ?_))
        · have := y.2.2.2.2.2; omega
        · have := y.2.2.2.2.2; omega
        · intro r j r1 r2 z'
          have := y.2.2.2.2.2; omega
end HI
section HI2
variable {d : Nat} {w : sW}
theorem tm8 {x : Int} (h : 0 ≤ x) : Int.tmod x 8 = x % 8 := Int.tmod_eq_emod_of_nonneg h
/-- slots that stay -/
theorem BkO.slot {w : sW} (b : BkO w) {i k : Int} (hi : 0 ≤ i ∧ i < 8) (hk : 0 ≤ k ∧ k < 8) (h : i ≠ k) (hz : gv w 86 i ≠ 0) : (108 ≤ gv w 86 i ∧ gv w 86 i + 16 < nx w) ∧ (gv w 86 k = 0 ∨ gv w 86 i + 16 < gv w 86 k ∨ gv w 86 k + 16 < gv w 86 i) := by
  have z1 := b.1 i hi.1 (by omega)
  have z2 := b.2 i k hi.1 (by omega) hk.1 (by omega) h
  have e1 : ow w i = gv w 86 i := ow8 w hi.2
  have e2 : ow w k = gv w 86 k := ow8 w hk.2
  have s1 : sz i = 16 := if_pos (by omega)
  have s2 : sz k = 16 := if_pos (by omega)
  omega
theorem h_keep {q hk : Int} {A : Rm} {H : Int → Rm} (h : HsI w hk H) (b : BkO w) (s : BkS w) (hq : StI w q A) (q36 : q = 36 ∨ q = 53) (hn : 108 ≤ nx w) : ∃ w' k, Ex pro (d + 3) 12 w [rV 85, rV q] = some (none, w') ∧ (0 ≤ k ∧ k < 8) ∧ HsI w' (pushK hk) (pushH hk H A) ∧ BkO w' ∧ BkS w' ∧ Ag w w' (fun r j => (r = 85 ∧ (j = 1 ∨ j = 2)) ∨ (r = 86 ∧ j = k) ∨ (gv w 86 k ≠ 0 ∧ gv w 86 k ≤ r ∧ r ≤ gv w 86 k + 16)) ∧ uc w' ≤ uc w + 17 ∧ us w' ≤ us w + 3240 := by
  obtain ⟨⟨k1, k2, k3, k4⟩, g2, g3, ol, g4, g5, g6⟩ := h
  have hk8 : 0 ≤ (ol + hk) % 8 ∧ (ol + hk) % 8 < 8 := by omega
  have key : ∀ v j, (j = 1 ∨ j = 2) → ∃ w', kpT (Ex pro (d + 2)) q ((ol + hk) % 8) (sv w 85 j v) = some (.inr (none, w')) ∧ gv w' 86 ((ol + hk) % 8) ≠ 0 ∧ StI w' (gv w' 86 ((ol + hk) % 8)) A ∧ BkO w' ∧ BkS w' ∧ Ag (sv w 85 j v) w' (fun r i => (r = 86 ∧ i = (ol + hk) % 8) ∨ (gv w 86 ((ol + hk) % 8) ≠ 0 ∧ gv w 86 ((ol + hk) % 8) ≤ r ∧ r ≤ gv w 86 ((ol + hk) % 8) + 16)) ∧ uc w' ≤ uc w + 17 ∧ us w' ≤ us w + 3240 := fun v j hj => by
    have ag := Ag.sv w 85 j v
    have oe : ∀ i, ow (sv w 85 j v) i = ow w i := fun i => by
      have z : ∀ a k, a ≠ 85 → gv (sv w 85 j v) a k = gv w a k := fun a k ha => by rw [gvS, if_neg (fun y => ha y.1)]
      unfold ow
      rw [z 86 _ (by decide), z 87 _ (by decide), z 88 _ (by decide)]
    have ge : ∀ i, gv (sv w 85 j v) 86 i = gv w 86 i := fun i => by rw [gvS, if_neg (by omega)]
    have l := l_keepT (d := d) (w := sv w 85 j v) (q := q) (k := (ol + hk) % 8) (A := A) ⟨k1, by rw [gvS, if_neg (by omega)]; exact k2, k3, k4⟩ hk8 ⟨fun i i0 i1 => by rw [oe, nxS]; exact b.1 i i0 i1, fun i j' i0 i1 j0 j1 ij => by rw [oe, oe]; exact b.2 i j' i0 i1 j0 j1 ij⟩ ⟨fun i i0 i1 => by
      rw [oe]
      have z := b.1 i i0 (by omega)
      rcases s.1 i i0 i1 with y | y
      · exact Or.inl y
      · exact Or.inr (y.eq (EqO.sv (by have := y.2.2.2.2.2.2; omega))), fun i i0 i1 => by
      rw [oe]
      have z := b.1 i (by omega) i1
      rcases s.2 i i0 i1 with y | y
      · exact Or.inl y
      · exact Or.inr (y.eq (EqO.sv (by have := y.2.2.2.2.2; omega)))⟩ (hq.eq (EqO.sv (by omega))) q36 hn
    rw [ge] at l
    exact l
  by_cases c : hk = 8
  · have c' : gv w 85 2 = 8 := by rw [g2, c]
    obtain ⟨w', a1, a2, a3, a4, a5, a6, a7, a8⟩ := key ((ol + 1) % 8) 1 (by omega)
    have ag : Ag w w' (fun r j => (r = 85 ∧ (j = 1 ∨ j = 2)) ∨ (r = 86 ∧ j = (ol + hk) % 8) ∨ (gv w 86 ((ol + hk) % 8) ≠ 0 ∧ gv w 86 ((ol + hk) % 8) ≤ r ∧ r ≤ gv w 86 ((ol + hk) % 8) + 16)) := ((Ag.sv w 85 1 ((ol + 1) % 8)).trans a6).mono (fun r j r0 r1 z => by
      rcases z with z | z
      · exact Or.inl ⟨z.1, Or.inl z.2⟩
      · exact Or.inr z)
    have bk := b.1 ((ol + hk) % 8) hk8.1 (by omega)
    have e1 : ow w ((ol + hk) % 8) = gv w 86 ((ol + hk) % 8) := ow8 w hk8.2
    refine ⟨w', (ol + hk) % 8, xX3_keep (Rn.ret ?_), hk8, ⟨⟨by rw [ag.kdE (by omega) (by omega)]; exact k1, by rw [ag.gvE (by omega) (by omega) (by omega)]; exact k2, by rw [ag.kdE (by omega) (by omega)]; exact k3, by rw [ag.lnE (by omega) (by omega)]; exact k4⟩, ?_, ?_, (ol + 1) % 8, ?_, by omega, fun i i0 i1 => ?_⟩, a4, a5, ag, a7, a8⟩
    · rw [eKeep, if_pos k1, if_pos c', g4, g2, w32_eq (by omega) (by omega), w32_eq (by omega) (by omega), tm8 (by omega), tm8 (by omega), a1]
    · rw [a6.gvE (by omega) (by show (85 : Int) < nx w; omega) (by omega), gvS, if_neg (by omega), g2, c]; rfl
    · unfold pushK; rw [if_pos c]; omega
    · rw [a6.gvE (by omega) (by show (85 : Int) < nx w; omega) (by omega), gvSS]
    · have i1' : i < 8 := by unfold pushK at i1; rw [if_pos c] at i1; exact i1
      unfold pushH
      rw [if_pos c]
      by_cases i7 : i = 7
      · rw [if_pos i7, show ((ol + 1) % 8 + i) % 8 = (ol + hk) % 8 by omega]
        exact ⟨a2, a3⟩
      · have z := g6 (i + 1) (by omega) (by omega)
        rw [if_neg i7, show ((ol + 1) % 8 + i) % 8 = (ol + (i + 1)) % 8 by omega]
        have bs := b.slot (i := (ol + (i + 1)) % 8) (k := (ol + hk) % 8) (by omega) hk8 (by omega) z.1
        rw [ag.gvE (by omega) (by omega) (by omega)]
        exact ⟨z.1, z.2.eq (ag.eqO (by omega) (by omega) (fun r j r1 r2 => by omega))⟩
  · have c' : ¬ gv w 85 2 = 8 := by rw [g2]; exact c
    obtain ⟨w', a1, a2, a3, a4, a5, a6, a7, a8⟩ := key (hk + 1) 2 (by omega)
    have ag : Ag w w' (fun r j => (r = 85 ∧ (j = 1 ∨ j = 2)) ∨ (r = 86 ∧ j = (ol + hk) % 8) ∨ (gv w 86 ((ol + hk) % 8) ≠ 0 ∧ gv w 86 ((ol + hk) % 8) ≤ r ∧ r ≤ gv w 86 ((ol + hk) % 8) + 16)) := ((Ag.sv w 85 2 (hk + 1)).trans a6).mono (fun r j r0 r1 z => by
      rcases z with z | z
      · exact Or.inl ⟨z.1, Or.inr z.2⟩
      · exact Or.inr z)
    have bk := b.1 ((ol + hk) % 8) hk8.1 (by omega)
    have e1 : ow w ((ol + hk) % 8) = gv w 86 ((ol + hk) % 8) := ow8 w hk8.2
    refine ⟨w', (ol + hk) % 8, xX3_keep (Rn.ret ?_), hk8, ⟨⟨by rw [ag.kdE (by omega) (by omega)]; exact k1, by rw [ag.gvE (by omega) (by omega) (by omega)]; exact k2, by rw [ag.kdE (by omega) (by omega)]; exact k3, by rw [ag.lnE (by omega) (by omega)]; exact k4⟩, ?_, ?_, ol, ?_, by omega, fun i i0 i1 => ?_⟩, a4, a5, ag, a7, a8⟩
    · rw [eKeep, if_pos k1, if_neg c', g4, g2, w32_eq (by omega) (by omega), w32_eq (by omega) (by omega), tm8 (by omega), a1]
    · rw [a6.gvE (by omega) (by show (85 : Int) < nx w; omega) (by omega), gvSS]; unfold pushK; rw [if_neg c]
    · unfold pushK; rw [if_neg c]; omega
    · rw [a6.gvE (by omega) (by show (85 : Int) < nx w; omega) (by omega), gvS, if_neg (by omega), g4]
    · have i1' : i < hk + 1 := by unfold pushK at i1; rw [if_neg c] at i1; exact i1
      unfold pushH
      rw [if_neg c]
      by_cases i7 : i = hk
      · rw [if_pos i7, i7]
        exact ⟨a2, a3⟩
      · have z := g6 i (by omega) (by omega)
        rw [if_neg i7]
        have bs := b.slot (i := (ol + i) % 8) (k := (ol + hk) % 8) (by omega) hk8 (by omega) z.1
        rw [ag.gvE (by omega) (by omega) (by omega)]
        exact ⟨z.1, z.2.eq (ag.eqO (by omega) (by omega) (fun r j r1 r2 => by omega))⟩
theorem h_bring {q hk : Int} {H : Int → Rm} (h : HsI w hk H) (b : BkO w) (hq : StSh w q) (q36 : q = 36 ∨ q = 53) (hn : 108 ≤ nx w) : (hk = 0 → Ex pro (d + 3) 13 w [rV 85, rV q] = some (some (iV 0), w)) ∧ (hk ≠ 0 → ∃ w', Ex pro (d + 3) 13 w [rV 85, rV q] = some (some (iV 1), w') ∧ HsI w' (hk - 1) H ∧ StI w' q (H (hk - 1)) ∧ Ag w w' (fun r j => (r = 85 ∧ j = 2) ∨ (q ≤ r ∧ r ≤ q + 16)) ∧ nx w' = nx w ∧ uc w' = uc w ∧ us w' = us w) := by
  obtain ⟨⟨k1, k2, k3, k4⟩, g2, g3, ol, g4, g5, g6⟩ := h
  refine ⟨fun c => xX3_bringBack (Rn.ret ?_), fun c => ?_⟩
  · rw [eX3_bringBack_0, if_pos k1, g2, if_pos c]
  · have z := g6 (hk - 1) (by omega) (by omega)
    have bk := b.1 ((ol + (hk - 1)) % 8) (by omega) (by omega)
    have e1 : ow w ((ol + (hk - 1)) % 8) = gv w 86 ((ol + (hk - 1)) % 8) := ow8 w (by omega)
    have s1 : sz ((ol + (hk - 1)) % 8) = 16 := if_pos (by omega)
    obtain ⟨w', a1, a2, a3⟩ := m_copyFrom (d := d) (w := sv w 85 2 (hk - 1)) (q := q) (q' := gv w 86 ((ol + (hk - 1)) % 8)) (by omega) (hq.eq (EqO.sv (by omega))) (z.2.eq (EqO.sv (by omega)))
    have ag : Ag w w' (fun r j => (r = 85 ∧ j = 2) ∨ (q ≤ r ∧ r ≤ q + 16)) := (Ag.sv w 85 2 (hk - 1)).trans a2.ag
    refine ⟨w', xX3_bringBack (Rn.ret ?_), ⟨⟨by rw [ag.kdE (by omega) (by omega)]; exact k1, by rw [ag.gvE (by omega) (by omega) (by omega)]; exact k2, by rw [ag.kdE (by omega) (by omega)]; exact k3, by rw [ag.lnE (by omega) (by omega)]; exact k4⟩, ?_, by omega, ol, ?_, g5, fun i i0 i1 => ?_⟩, a3, ag, by rw [a2.nxE, nxS], by rw [a2.ucE, ucS], by rw [a2.usE, usS]⟩
    · rw [eX3_bringBack_0]
      simp only [k1, if_true, g2, g4, k2, k3, k4, show ¬ (8 : Int) = 0 by decide, if_false, c]
      rw [w32_eq (x := ol + hk) (by omega) (by omega), w32_eq (x := ol + hk - 1) (by omega) (by omega), w32_eq (x := hk - 1) (by omega) (by omega), tm8 (by omega), show (ol + hk - 1) % 8 = (ol + (hk - 1)) % 8 by omega, if_pos (by omega), if_neg z.1]
      simp only [wl_eq, kdS, lnS, k1, if_true]
      have y1 : gv (sv w 85 2 (hk - 1)) 85 0 = 86 := by rw [gvS, if_neg (by omega)]; exact k2
      have y2 : gv (sv w 85 2 (hk - 1)) 86 ((ol + (hk - 1)) % 8) = gv w 86 ((ol + (hk - 1)) % 8) := by rw [gvS, if_neg (by omega)]
      rw [y1, k3, k4, if_pos (by omega), if_pos hq.1.1, y2, a1]
      simp only [bN]
    · rw [a2.2.2 _ _ (by omega), gvSS]
    · rw [a2.2.2 _ _ (by omega), gvS, if_neg (by omega)]; exact g4
    · have y := g6 i i0 (by omega)
      have bs := b.1 ((ol + i) % 8) (by omega) (by omega)
      have e2 : ow w ((ol + i) % 8) = gv w 86 ((ol + i) % 8) := ow8 w (by omega)
      have s2 : sz ((ol + i) % 8) = 16 := if_pos (by omega)
      rw [ag.gvE (by omega) (by omega) (by omega)]
      exact ⟨y.1, y.2.eq (ag.eqO (by omega) (by omega) (fun r j r1 r2 => by omega))⟩
end HI2
