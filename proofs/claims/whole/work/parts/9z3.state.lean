/-! ===== the whole state, class and reference ===== -/
abbrev Imt := Bool × Rm × Bool × Sb
/-- the room, how many deeds can be undone, the rooms ahead of them, what was told, the fault, the tape, what was sought, the sentence, the images -/
abbrev St := Rm × Int × (Int → Rm) × (Int → Int) × Int × ((Int → Int) × Int) × ((Int → Int) × Int) × (Bool × Sb) × Imt × Imt
def g3 (w : sW) : Prop := (gv w 32 2 = 34 ∧ kd w 34 = 4) ∧ WordI w
def g6 (w : sW) (s s' R : Int) (Z : Bool × Sb) : Prop := (gv w 32 5 = s ∧ gv w 32 6 = s' ∧ ((s = 70 ∧ s' = 75) ∨ (s = 75 ∧ s' = 70))) ∧ SeSh w s' ∧ SeK w s R Z.1 Z.2
def g7 (w : sW) (I0 I1 : Imt) : Prop := ImSh w ∧ ImC w 0 I0.1 I0.2.1 I0.2.2.1 I0.2.2.2 ∧ ImC w 1 I1.1 I1.2.1 I1.2.2.1 I1.2.2.2
def CL (w : sW) (S : St) : Prop := ∃ q q' s s', CD w q S.1 S.2.1 S.2.2.1 ∧ SpI w q q' ∧ TpI w 32 0 1 33 S.2.2.2.2.2.1.1 S.2.2.2.2.2.1.2 ∧ g3 w ∧ BkI w S.2.2.2.1 ∧ gv w 32 13 = S.2.2.2.2.1 ∧ g6 w s s' S.1.1 S.2.2.2.2.2.2.2.1 ∧ g7 w S.2.2.2.2.2.2.2.2.1 S.2.2.2.2.2.2.2.2.2 ∧ FdI w 32 11 12 89 S.2.2.2.2.2.2.1.1 S.2.2.2.2.2.2.1.2
def ML (w : sW) (m : Int) (S : St) : Prop := MSh w m ∧ MoI w m S.1 ∧ NmM w m S.1 ∧ HsM w m S.2.1 S.2.2.1 ∧ HOk S.1 S.2.1 S.2.2.1 ∧ TpI w m 1 2 (m + 1) S.2.2.2.2.2.1.1 S.2.2.2.2.2.1.2 ∧ MtI w m S.2.2.2.1 ∧ gv w m 10 = S.2.2.2.2.1 ∧ SeN (gv w (m + 2)) S.1.1 S.2.2.2.2.2.2.2.1.1 S.2.2.2.2.2.2.2.1.2 ∧ ImM w m 0 S.2.2.2.2.2.2.2.2.1.1 S.2.2.2.2.2.2.2.2.1.2.1 S.2.2.2.2.2.2.2.2.1.2.2.1 S.2.2.2.2.2.2.2.2.1.2.2.2 ∧ ImM w m 1 S.2.2.2.2.2.2.2.2.2.1 S.2.2.2.2.2.2.2.2.2.2.1 S.2.2.2.2.2.2.2.2.2.2.2.1 S.2.2.2.2.2.2.2.2.2.2.2.2 ∧ FdI w m 27 28 (m + 12) S.2.2.2.2.2.2.1.1 S.2.2.2.2.2.2.1.2
section FR
variable {w w' : sW} {P : Int → Int → Prop} {q q' hk s s' R : Int} {A : Rm} {H : Int → Rm} {Z : Bool × Sb} {I0 I1 : Imt}
theorem CD.ag (h : CD w q A hk H) (g : Ag w w' P) (h3 : ¬ P 32 3) (h8 : ¬ P 32 8) (hb : ∀ r j, q ≤ r → r ≤ q + 16 → ¬ P r j) (h85 : ∀ r j, 85 ≤ r → r ≤ 88 → ¬ P r j) (h108 : ∀ r j, 108 ≤ r → ¬ P r j) : CD w' q A hk H := by
  obtain ⟨h1, hq, h8', hH, hO, hB, hn⟩ := h
  have n := g.1
  exact ⟨h1.ag g hn hq h3 hb, hq, by rw [g.gvE (by omega) (by omega) h8]; exact h8', hH.ag hO g hn (fun r j z => by
    rcases z with z | z | z
    · exact h85 r j (by omega) (by omega)
    · exact h85 r j (by omega) (by omega)
    · exact h108 r j z), hO.ag g hn (fun r j z => h85 r j (by omega) (by omega)), hB.ag hO g hn (fun r j z => by
    rcases z with z | z | z | z
    · exact h85 r j (by omega) (by omega)
    · exact h85 r j (by omega) (by omega)
    · exact h85 r j (by omega) (by omega)
    · exact h108 r j z), by omega⟩
theorem SpI.ag (h : SpI w q q') (g : Ag w w' P) (hn : 108 ≤ nx w) (h4 : ¬ P 32 4) (hb : ∀ r j, q' ≤ r → r ≤ q' + 16 → ¬ P r j) : SpI w' q q' := ⟨by rw [g.gvE (by omega) (by omega) h4]; exact h.1, h.2.1.eq (g.eqO (by have := h.2.2; omega) (by have := h.2.2; omega) hb), h.2.2⟩
theorem g3.ag (h : g3 w) (g : Ag w w' P) (hn : 108 ≤ nx w) (h2 : ¬ P 32 2) (hw : ∀ r j, 1 ≤ r → r ≤ 24 → ¬ P r j) : g3 w' := ⟨⟨by rw [g.gvE (by omega) (by omega) h2]; exact h.1.1, by rw [g.kdE (by omega) (by omega)]; exact h.1.2⟩, h.2.ag g hn hw⟩
theorem g6.ag (h : g6 w s s' R Z) (g : Ag w w' P) (hn : 108 ≤ nx w) (h5 : ¬ P 32 5) (h6 : ¬ P 32 6) (hb : ∀ r j, 70 ≤ r → r ≤ 79 → ¬ P r j) : g6 w' s s' R Z := by
  obtain ⟨⟨a1, a2, a3⟩, a4, a5⟩ := h
  exact ⟨⟨by rw [g.gvE (by omega) (by omega) h5]; exact a1, by rw [g.gvE (by omega) (by omega) h6]; exact a2, a3⟩, a4.eq (g.eqO (by omega) (by omega) (fun r j r0 r1 => hb r j (by omega) (by omega))), a5.eq (g.eqO (by omega) (by omega) (fun r j r0 r1 => hb r j (by omega) (by omega)))⟩
theorem ImC.ag {k : Int} {e : Bool} {B : Rm} {b : Bool} {f : Sb} (h : ImC w k e B b f) (hk : 0 ≤ k ∧ k < 2) (hO : BkO w) (g : Ag w w' P) (hn : 108 ≤ nx w) (h87 : ∀ r j, r = 87 ∨ r = 88 → ¬ P r j) (him : ∀ r j, 108 ≤ r → P r j → ∃ i, (0 ≤ i ∧ i < 8) ∧ ow w i ≠ 0 ∧ ow w i ≤ r ∧ r ≤ ow w i + 16) : ImC w' k e B b f := by
  have e1 : gv w' 87 k = gv w 87 k := g.gvE (by omega) (by omega) (h87 _ _ (Or.inl rfl))
  have e2 : gv w' 88 k = gv w 88 k := g.gvE (by omega) (by omega) (h87 _ _ (Or.inr rfl))
  refine ⟨fun z => by rw [e1, e2]; exact h.1 z, fun z => ?_⟩
  obtain ⟨y1, y2, y3, y4⟩ := h.2 z
  have b8 := hO.1 (8 + k) (by omega) (by omega)
  have b10 := hO.1 (10 + k) (by omega) (by omega)
  rw [ow87 w hk, show sz (8 + k) = 16 from if_pos (by omega)] at b8
  rw [ow88 w hk, show sz (10 + k) = 4 from if_neg (by omega)] at b10
  rw [e1, e2]
  refine ⟨y1, y2, y3.eq (g.eqO (by omega) (by omega) (fun r j r0 r1 p => ?_)), y4.eq (g.eqO (by omega) (by omega) (fun r j r0 r1 p => ?_))⟩
  · obtain ⟨i, i1, i2, i3, i4⟩ := him r j (by omega) p
    have d := hO.2 i (8 + k) (by omega) (by omega) (by omega) (by omega) (by omega)
    rw [ow87 w hk, show sz (8 + k) = 16 from if_pos (by omega), show sz i = 16 from if_pos (by omega)] at d
    omega
  · obtain ⟨i, i1, i2, i3, i4⟩ := him r j (by omega) p
    have d := hO.2 i (10 + k) (by omega) (by omega) (by omega) (by omega) (by omega)
    rw [ow88 w hk, show sz (10 + k) = 4 from if_neg (by omega), show sz i = 16 from if_pos (by omega)] at d
    omega
theorem ImSh.ag (h : ImSh w) (g : Ag w w' P) (hn : 108 ≤ nx w) (h9 : ¬ P 32 9) (h10 : ¬ P 32 10) : ImSh w' := by
  obtain ⟨⟨a1, a2, a3⟩, a4, a5, a6⟩ := h
  exact ⟨⟨by rw [g.gvE (by omega) (by omega) h9]; exact a1, by rw [g.kdE (by omega) (by omega)]; exact a2, by rw [g.lnE (by omega) (by omega)]; exact a3⟩, by rw [g.gvE (by omega) (by omega) h10]; exact a4, by rw [g.kdE (by omega) (by omega)]; exact a5, by rw [g.lnE (by omega) (by omega)]; exact a6⟩
theorem g7.ag (h : g7 w I0 I1) (hO : BkO w) (g : Ag w w' P) (hn : 108 ≤ nx w) (h9 : ¬ P 32 9) (h10 : ¬ P 32 10) (h87 : ∀ r j, r = 87 ∨ r = 88 → ¬ P r j) (him : ∀ r j, 108 ≤ r → P r j → ∃ i, (0 ≤ i ∧ i < 8) ∧ ow w i ≠ 0 ∧ ow w i ≤ r ∧ r ≤ ow w i + 16) : g7 w' I0 I1 :=
  ⟨h.1.ag g hn h9 h10, h.2.1.ag (by omega) hO g hn h87 him, h.2.2.ag (by omega) hO g hn h87 him⟩
/-- nothing of the class is touched -/
theorem CL.md {S : St} (h : CL w S) (g : Mf w w' P) (hp : ∀ r j, P r j → 91 ≤ r ∧ r ≤ 107) : CL w' S := by
  obtain ⟨q, q', s, s', h1, h2, h3, h4, h5, h6, h7, h8, h9⟩ := h
  have hn := h1.2.2.2.2.2.2
  have hq := h1.2.1
  have no : ∀ r j, r ≤ 90 ∨ 108 ≤ r → ¬ P r j := fun r j z p => by have := hp r j p; omega
  have ga := g.ag
  have q2 := h2.2.2
  exact ⟨q, q', s, s', h1.ag ga (no _ _ (by omega)) (no _ _ (by omega)) (fun r j _ _ => no r j (by omega)) (fun r j _ _ => no r j (by omega)) (fun r j _ => no r j (by omega)), h2.ag ga hn (no _ _ (by omega)) (fun r j _ _ => no r j (by omega)), h3.mf g (no _ _ (by omega)) (no _ _ (by omega)) (fun j => no _ _ (by omega)), h4.ag ga hn (no _ _ (by omega)) (fun r j _ _ => no r j (by omega)), h5.ag ga hn (no _ _ (by omega)) (no _ _ (by omega)) (fun r j _ => no r j (by omega)), by rw [g.gvE (no _ _ (by omega))]; exact h6, h7.ag ga hn (no _ _ (by omega)) (no _ _ (by omega)) (fun r j _ _ => no r j (by omega)), h8.ag h1.2.2.2.2.1 ga hn (no _ _ (by omega)) (no _ _ (by omega)) (fun r j _ => no r j (by omega)) (fun r j z p => absurd p (no r j (by omega))), h9.mf g (no _ _ (by omega)) (no _ _ (by omega)) (fun j => no _ _ (by omega))⟩
/-- nothing of the reference is touched -/
theorem ML.eq {S : St} {m : Int} (h : ML w m S) (e : EqO w w' m (m + 15)) : ML w' m S := by
  obtain ⟨h1, h2, h3, h4, h5, h6, h7, h8, h9, h10, h11, h12⟩ := h
  have kd' : ∀ i, 0 ≤ i → i ≤ 15 → kd w' (m + i) = kd w (m + i) := fun i i0 i1 => e.kdE (by omega) (by omega)
  have ln' : ∀ i, 0 ≤ i → i ≤ 15 → ln w' (m + i) = ln w (m + i) := fun i i0 i1 => e.lnE (by omega) (by omega)
  have gm : ∀ j, gv w' m j = gv w m j := fun j => e.gvE (by omega) (by omega) j
  have gi : ∀ i, 0 ≤ i → i ≤ 15 → gv w' (m + i) = gv w (m + i) := fun i i0 i1 => funext fun j => e.gvE (by omega) (by omega) j
  have km : kd w' m = kd w m := e.kdE (by omega) (by omega)
  have M' : MSh w' m := by
    unfold MSh ARm at *
    rw [km, gm, gm, gm, gm, gm, gm, gm, gm, gm, gm, gm, gm, gm, gm, gm, kd' 1 (by omega) (by omega), kd' 2 (by omega) (by omega), kd' 3 (by omega) (by omega), kd' 4 (by omega) (by omega), kd' 5 (by omega) (by omega), kd' 6 (by omega) (by omega), kd' 7 (by omega) (by omega), kd' 8 (by omega) (by omega), kd' 9 (by omega) (by omega), kd' 10 (by omega) (by omega), kd' 11 (by omega) (by omega), kd' 12 (by omega) (by omega), kd' 13 (by omega) (by omega), kd' 14 (by omega) (by omega), kd' 15 (by omega) (by omega), ln' 1 (by omega) (by omega), ln' 2 (by omega) (by omega), ln' 3 (by omega) (by omega), ln' 4 (by omega) (by omega), ln' 5 (by omega) (by omega), ln' 6 (by omega) (by omega), ln' 7 (by omega) (by omega), ln' 8 (by omega) (by omega), ln' 9 (by omega) (by omega), ln' 10 (by omega) (by omega), ln' 11 (by omega) (by omega), ln' 12 (by omega) (by omega), ln' 13 (by omega) (by omega), ln' 14 (by omega) (by omega), ln' 15 (by omega) (by omega)]
    exact h1
  have im : ∀ (k : Int) (I : Imt), ImM w m k I.1 I.2.1 I.2.2.1 I.2.2.2 → ImM w' m k I.1 I.2.1 I.2.2.1 I.2.2.2 := fun k I hI => by
    unfold ImM at *
    rw [gi 11 (by omega) (by omega), gi 4 (by omega) (by omega), gi 10 (by omega) (by omega)]
    exact hI
  refine ⟨M', ⟨M'.now, by rw [gi 2 (by omega) (by omega)]; exact h2.2⟩, ⟨M', by rw [gi 2 (by omega) (by omega)]; exact h3.2.1, h3.2.2.1, fun r r0 r1 => by rw [gi 8 (by omega) (by omega)]; exact h3.2.2.2 r r0 r1⟩, ⟨by rw [gm]; exact h4.1, h4.2.1, fun j j0 j1 => by rw [gi 5 (by omega) (by omega)]; exact h4.2.2 j j0 j1⟩, h5, ⟨⟨by rw [gm]; exact h6.1.1, by rw [kd' 1 (by omega) (by omega)]; exact h6.1.2.1, by rw [ln' 1 (by omega) (by omega)]; exact h6.1.2.2.1, h6.1.2.2.2⟩, by rw [gm]; exact h6.2.1, h6.2.2.1, fun i i0 i1 => by rw [gi 1 (by omega) (by omega)]; exact h6.2.2.2 i i0 i1⟩, ?_, by rw [gm]; exact h8, by rw [gi 2 (by omega) (by omega)]; exact h9, im 0 _ h10, im 1 _ h11, ⟨⟨by rw [gm]; exact h12.1.1, by rw [kd' 12 (by omega) (by omega)]; exact h12.1.2.1, by rw [ln' 12 (by omega) (by omega)]; exact h12.1.2.2.1, h12.1.2.2.2⟩, by rw [gm]; exact h12.2.1, h12.2.2.1, fun i i0 i1 => by rw [gi 12 (by omega) (by omega)]; exact h12.2.2.2 i i0 i1⟩⟩
  rcases h7 with ⟨a, b⟩ | ⟨a, b⟩
  · exact Or.inl ⟨by rw [gm]; exact a, b⟩
  · exact Or.inr ⟨by rw [gm]; exact a, fun i i0 i1 => by rw [gi 14 (by omega) (by omega)]; exact b i i0 i1⟩
end FR
