/-! ===== the law: one call of each ===== -/
section LW
variable {w w' : sW} {P : Int → Int → Prop} {S S' : St} {L i : Int}
theorem CL.mdA (h : CL w S) (g : Ag w w' P) (hp : ∀ r j, P r j → 91 ≤ r ∧ r ≤ 107) : CL w' S := by
  obtain ⟨q, q', s, s', h1, h2, h3, h4, h5, h6, h7, h8, h9⟩ := h
  have hn := h1.2.2.2.2.2.2
  have hq := h1.2.1
  have no : ∀ r j, r ≤ 90 ∨ 108 ≤ r → ¬ P r j := fun r j z p => by have := hp r j p; omega
  have q2 := h2.2.2
  exact ⟨q, q', s, s', h1.ag g (no _ _ (by omega)) (no _ _ (by omega)) (fun r j _ _ => no r j (by omega)) (fun r j _ _ => no r j (by omega)) (fun r j _ => no r j (by omega)), h2.ag g hn (no _ _ (by omega)) (fun r j _ _ => no r j (by omega)), h3.ag g (by omega) (by omega) (no _ _ (by omega)) (no _ _ (by omega)) (fun j => no _ _ (by omega)), h4.ag g hn (no _ _ (by omega)) (fun r j _ _ => no r j (by omega)), h5.ag g hn (no _ _ (by omega)) (no _ _ (by omega)) (fun r j _ => no r j (by omega)), by rw [g.gvE (by omega) (by omega) (no _ _ (by omega))]; exact h6, h7.ag g hn (no _ _ (by omega)) (no _ _ (by omega)) (fun r j _ _ => no r j (by omega)), h8.ag h1.2.2.2.2.1 g hn (no _ _ (by omega)) (no _ _ (by omega)) (fun r j _ => no r j (by omega)) (fun r j z p => absurd p (no r j (by omega))), h9.ag g (by omega) (by omega) (no _ _ (by omega)) (no _ _ (by omega)) (fun j => no _ _ (by omega))⟩
theorem CL.nx (h : CL w S) : 108 ≤ nx w := by
  obtain ⟨q, q', s, s', h1, _⟩ := h
  exact h1.2.2.2.2.2.2
theorem CL.k9 (h : CL w S) : kd w 32 = 9 := by
  obtain ⟨q, q', s, s', h1, _⟩ := h
  exact h1.1.1
/-- the script and the law's own array -/
def ScL (w : sW) (L : Int) : Prop := (kd w 25 = 20 ∧ ln w 25 = L ∧ ∀ j, in32 (gv w 25 j)) ∧ kd w 107 = 22 ∧ ln w 107 = 1
def LwS (w : sW) (S : St) (L : Int) : Prop := CL w S ∧ ML w 91 S ∧ ScL w L
theorem ScL.ag (h : ScL w L) (g : Ag w w' P) (hn : 108 ≤ nx w) (hp : ∀ j, ¬ P 25 j) : ScL w' L := by
  obtain ⟨⟨a1, a2, a3⟩, a4, a5⟩ := h
  exact ⟨⟨by rw [g.kdE (by omega) (by omega)]; exact a1, by rw [g.lnE (by omega) (by omega)]; exact a2, fun j => by rw [g.gvE (by omega) (by omega) (hp j)]; exact a3 j⟩, by rw [g.kdE (by omega) (by omega)]; exact a4, by rw [g.lnE (by omega) (by omega)]; exact a5⟩
/-- what a step leaves as it was -/
abbrev LsE (w w' : sW) : Prop := ∀ j, gv w' 25 j = gv w 25 j
theorem LwS.x (h : LwS w S L) {x : Option (Option sV × sW)} {y : Int} (hx : XR w x y S') : ∃ w1, x = some (some (iV y), w1) ∧ CL w1 S' ∧ ML w1 91 S ∧ ScL w1 L ∧ LsE w w1 ∧ uc w1 ≤ uc w + 40 ∧ us w1 ≤ us w + 4000 := by
  obtain ⟨w1, a1, a2, ⟨P, g, hp⟩, a4, a5⟩ := hx
  have hn := h.1.nx
  have no : ∀ r j, r < 32 ∨ (91 ≤ r ∧ r < 108) → ¬ P r j := fun r j z p => by have := hp r j p; omega
  exact ⟨w1, a1, a2, h.2.1.eq (g.eqO (by omega) (by omega) (fun r j r0 r1 => no r j (by omega))), h.2.2.ag g hn (fun j => no _ _ (by omega)), fun j => g.gvE (by omega) (by omega) (no _ _ (by omega)), a4, a5⟩
theorem LwS.y (hc : CL w S') (hs : ScL w L) {x : Option (Option sV × sW)} {y : Int} (hy : YR w 91 x y S') : ∃ w2, x = some (some (iV y), w2) ∧ LwS w2 S' L ∧ uc w2 = uc w ∧ us w2 = us w := by
  obtain ⟨w2, a1, a2, a3⟩ := hy
  exact ⟨w2, a1, ⟨hc.md a3 (fun r j z => by omega), a2, hs.ag a3.ag hc.nx (fun j => by omega)⟩, a3.ucE, a3.usE⟩
theorem LwS.t0 (h : LwS w S L) {v : Int} : LwS (sv w 91 0 v) S L := ⟨h.1.md (Mf.svI w 91 0 v) (fun r j z => by omega), h.2.1.t0, h.2.2.ag (Mf.svI w 91 0 v).ag h.1.nx (fun j => by omega)⟩
theorem LwS.out (h : LwS w S L) {v : Int} : LwS (sv w 107 0 v) S L := ⟨h.1.md (Mf.svI w 107 0 v) (fun r j z => by omega), h.2.1.eq ((Mf.svI w 107 0 v).eqO (fun r j r0 r1 => by omega)), h.2.2.ag (Mf.svI w 107 0 v).ag h.1.nx (fun j => by omega)⟩
theorem Ag.bp (w : sW) (c n : Nat) : Ag w (bp w c n) (fun _ _ => False) := ⟨Int.le_refl _, fun _ _ _ => rfl, fun _ _ _ _ _ => rfl⟩
theorem LwS.bp (h : LwS w S L) {c n : Nat} : LwS (bp w c n) S L := ⟨h.1.mdA (Ag.bp w c n) (fun _ _ z => z.elim), h.2.1.eq ((Ag.bp w c n).eqO (by omega) (by have := h.1.nx; omega) (fun _ _ _ _ z => z)), h.2.2.ag (Ag.bp w c n) h.1.nx (fun _ z => z)⟩
theorem ML.qf (h : ML w 91 S) (g : Qf w w' 91) : ML w' 91 S := by
  have m := g.mf
  have h' := h
  obtain ⟨h1, h2, h3, h4, h5, h6, h7, h8, h9, h10, h11, h12⟩ := h
  have r := ML.gen (S := S) (P := fun r j => r = 91 ∧ (j = 0 ∨ j = 26)) (w := w) (w' := w') (m := 91)
  exact ⟨h1.mf m (fun j z => by omega), h2.mf m (by omega) (fun j z => by omega), h3.mf m (fun j z => by omega) (by omega) (fun j => by omega), h4.mf m (by omega) (fun j => by omega), h5, h6.mf m (by omega) (by omega) (fun j => by omega), h7.mf m (by omega) (fun j => by omega), by rw [m.gvE (by omega)]; exact h8, h9.cg (fun x x0 x1 => m.gvE (by omega)), h10.mf m (by omega) (fun x x0 x1 => by omega) (fun r r0 r1 => by omega), h11.mf m (by omega) (fun x x0 x1 => by omega) (fun r r0 r1 => by omega), h12.mf m (by omega) (by omega) (fun j => by omega)⟩
theorem LwS.qf (h : LwS w S L) (g : Qf w w' 91) : LwS w' S L := ⟨h.1.md g.mf (fun r j z => by omega), h.2.1.qf g, h.2.2.ag g.mf.ag h.1.nx (fun j => by omega)⟩
abbrev lwL (i : Int) : sL := [some (rV 25), some (rV 32), some (rV 91), some (rV 107), some (iV i), none, none]
def CaseL (w : sW) (L : Int) (pc : Nat) (i : Int) : Prop := ∃ w2 S2, LwS w2 S2 L ∧ uc w2 ≤ uc w + 41 ∧ us w2 ≤ us w + 4010 ∧ ∀ res, Rn (Ex pro 50) mL_law (1946, lwL i, [], w2) res → Rn (Ex pro 50) mL_law (pc, lwL i, [], w) res
/-- an argument is there -/
theorem ScL.ib (h : ScL w L) (hi : 0 ≤ i ∧ i + 6 ≤ L) {k : Int} (hk : 0 ≤ k ∧ k < 6) : kd w 25 = 20 ∧ 0 ≤ i + k ∧ i + k < ln w 25 := ⟨h.1.1, by omega, by rw [h.1.2.1]; omega⟩
theorem ex_hlp {d mid q : Nat} {as : List sV} (h : pro mid = some (.inr q)) : Ex pro (d + 1) mid w as = hlp (Ex pro d) q w as := by simp only [Ex, h]
end LW
