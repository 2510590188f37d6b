/-! ===== the class's calls on the whole state ===== -/
abbrev sA (S : St) : Rm := S.1
abbrev sK (S : St) : Int := S.2.1
abbrev sH (S : St) : Int → Rm := S.2.2.1
abbrev sT (S : St) : Int → Int := S.2.2.2.1
abbrev sF (S : St) : Int := S.2.2.2.2.1
abbrev st (S : St) : Int → Int := S.2.2.2.2.2.1.1
abbrev sn (S : St) : Int := S.2.2.2.2.2.1.2
abbrev sQ (S : St) : Int → Int := S.2.2.2.2.2.2.1.1
abbrev sq (S : St) : Int := S.2.2.2.2.2.2.1.2
abbrev sZ (S : St) : Bool × Sb := S.2.2.2.2.2.2.2.1
abbrev sIm (S : St) : Imt := S.2.2.2.2.2.2.2.2.1
abbrev sJm (S : St) : Imt := S.2.2.2.2.2.2.2.2.2
def CQ (w : sW) (q q' s s' : Int) (S : St) : Prop := CD w q (sA S) (sK S) (sH S) ∧ SpI w q q' ∧ TpI w 32 0 1 33 (st S) (sn S) ∧ g3 w ∧ BkI w (sT S) ∧ gv w 32 13 = sF S ∧ g6 w s s' (sA S).1 (sZ S) ∧ g7 w (sIm S) (sJm S) ∧ FdI w 32 11 12 89 (sQ S) (sq S)
abbrev loP (r j : Int) : Prop := (r = 32 ∧ (j = 1 ∨ j = 3 ∨ j = 4 ∨ j = 13)) ∨ (33 ≤ r ∧ r ≤ 69) ∨ (80 ≤ r ∧ r ≤ 86) ∨ r = 90
def slP (w : sW) (r : Int) : Prop := ∃ i, (0 ≤ i ∧ i < 8) ∧ ow w i ≠ 0 ∧ ow w i ≤ r ∧ r ≤ ow w i + 16
def Lo (w w' : sW) : Prop := ∃ P, Ag w w' P ∧ ∀ r j, P r j → (32 ≤ r ∧ r ≤ 90) ∨ 108 ≤ r
def XR (w : sW) (x : Option (Option sV × sW)) (y : Int) (S : St) : Prop := ∃ w', x = some (some (iV y), w') ∧ CL w' S ∧ Lo w w' ∧ uc w' ≤ uc w + 40 ∧ us w' ≤ us w + 4000
theorem paA_k (A : Rm) (t : Int → Int) (n r i : Int) : (paA A t n r i).1 = A.1 ∧ (paA A t n r i).2.1 = A.2.1 ∧ (paA A t n r i).2.2.1 = A.2.2.1 := by
  unfold paA
  split <;> exact ⟨rfl, rfl, rfl⟩
theorem drA_k (A : Rm) (n x : Int) : (drA A n x).1 = A.1 ∧ (drA A n x).2.1 = A.2.1 ∧ (drA A n x).2.2.1 = A.2.2.1 := by
  unfold drA
  split
  · exact drF_keep _ _ _ _
  · exact ⟨rfl, rfl, rfl⟩
section XO
variable {w w' : sW} {P : Int → Int → Prop} {q q' s s' : Int} {S : St}
theorem slP.ge {r : Int} (h : slP w r) (b : BkO w) : 108 ≤ r := by
  obtain ⟨i, i1, i2, i3, i4⟩ := h
  have := b.1 i (by omega) (by omega)
  omega
theorem slP.mk {k r : Int} (hk : 0 ≤ k ∧ k < 8) (h : gv w 86 k ≠ 0 ∧ gv w 86 k ≤ r ∧ r ≤ gv w 86 k + 16) : slP w r := ⟨k, hk, by rw [ow8 w hk.2]; exact h⟩
theorem CQ.gen (h : CQ w q q' s s' S) (g : Ag w w' P) (hp : ∀ r j, P r j → loP r j ∨ slP w r) {q1 q1' hk' n' fa' : Int} {A' : Rm} {H' : Int → Rm} {t' T' : Int → Int} (hC : CD w' q1 A' hk' H') (hS : SpI w' q1 q1') (hT : TpI w' 32 0 1 33 t' n') (h3 : g3 w') (hB : BkI w' T') (hf : gv w' 32 13 = fa') (e : A'.1 = (sA S).1) : CQ w' q1 q1' s s' (A', hk', H', T', fa', (t', n'), S.2.2.2.2.2.2) := by
  obtain ⟨h1, h2, h3', h4, h5, h6, h7, h8, h9⟩ := h
  have hO := h1.2.2.2.2.1
  have hn := h1.2.2.2.2.2.2
  have no : ∀ r j, r < 108 → ¬ loP r j → ¬ P r j := fun r j z z2 p => by
    rcases hp r j p with y | y
    · exact z2 y
    · have := y.ge hO; omega
  refine ⟨hC, hS, hT, h3, hB, hf, ?_, h8.ag hO g hn (no _ _ (by omega) (by omega)) (no _ _ (by omega) (by omega)) (fun r j z => no r j (by omega) (by omega)) (fun r j z p => ?_), h9.ag g (by omega) (by omega) (no _ _ (by omega) (by omega)) (no _ _ (by omega) (by omega)) (fun j => no _ _ (by omega) (by omega))⟩
  · show g6 w' s s' A'.1 (sZ S)
    rw [e]
    exact h7.ag g hn (no _ _ (by omega) (by omega)) (no _ _ (by omega) (by omega)) (fun r j r0 r1 => no r j (by omega) (by omega))
  · rcases hp r j p with y | y
    · exact absurd y (by omega)
    · exact y
theorem Lo.of (b : BkO w) (g : Ag w w' P) (hp : ∀ r j, P r j → loP r j ∨ slP w r) : Lo w w' := ⟨P, g, fun r j p => by
  rcases hp r j p with y | y
  · exact Or.inl (by omega)
  · exact Or.inr (y.ge b)⟩
theorem Lo.rf : Lo w w := ⟨fun _ _ => False, Ag.refl _ _, fun _ _ z => z.elim⟩
theorem XR.same (h : CL w S) {y : Int} : XR w (some (some (iV y), w)) y S := ⟨w, rfl, h, Lo.rf, by omega, by omega⟩
theorem CQ.cl (h : CQ w q q' s s' S) : CL w S := ⟨q, q', s, s', h⟩
theorem CQ.now (h : CQ w q q' s s' S) : NowI w 32 q (sA S) := h.1.1
/-- only the tape -/
theorem CQ.tape (h : CQ w q q' s s' S) (g : Mf w w' (fun r j => (r = 32 ∧ j = 1) ∨ r = 33)) {t' : Int → Int} {n' : Int} (hT : TpI w' 32 0 1 33 t' n') : CQ w' q q' s s' (sA S, sK S, sH S, sT S, sF S, (t', n'), S.2.2.2.2.2.2) := by
  have ga := g.ag
  have hn := h.1.2.2.2.2.2.2
  have hq := h.1.2.1
  have q2 := h.2.1.2.2
  exact h.gen ga (fun r j z => Or.inl (by omega)) (h.1.ag ga (by omega) (by omega) (fun r j r0 r1 => by omega) (fun r j r0 r1 => by omega) (fun r j z => by omega)) (h.2.1.ag ga hn (by omega) (fun r j r0 r1 => by omega)) hT (h.2.2.2.1.ag ga hn (by omega) (fun r j r0 r1 => by omega)) (h.2.2.2.2.1.ag ga hn (by omega) (by omega) (fun r j z => by omega)) (by rw [g.gvE (by omega)]; exact h.2.2.2.2.2.1) rfl
/-- deeds -/
theorem CQ.deed (h : CQ w q q' s s' S) {k : Int} (hk : 0 ≤ k ∧ k < 8) (g : Ag w w' (fun r j => (r = 32 ∧ j = 1) ∨ dC w q k r j)) {hk' n' : Int} {A' : Rm} {H' : Int → Rm} {t' : Int → Int} (hC : CD w' q A' hk' H') (hT : TpI w' 32 0 1 33 t' n') (e : A'.1 = (sA S).1) : CQ w' q q' s s' (A', hk', H', sT S, sF S, (t', n'), S.2.2.2.2.2.2) ∧ Lo w w' := by
  have hO := h.1.2.2.2.2.1
  have hn := h.1.2.2.2.2.2.2
  have hq := h.1.2.1
  have q2 := h.2.1.2.2
  have bk := hO.1 k (by omega) (by omega)
  rw [ow8 w hk.2] at bk
  have hp : ∀ r j, ((r = 32 ∧ j = 1) ∨ dC w q k r j) → loP r j ∨ slP w r := fun r j z => by
    by_cases y : gv w 86 k ≠ 0 ∧ gv w 86 k ≤ r ∧ r ≤ gv w 86 k + 16
    · exact Or.inr (slP.mk hk y)
    · exact Or.inl (by omega)
  exact ⟨h.gen g hp hC (h.2.1.ag g hn (by omega) (fun r j r0 r1 => by omega)) hT (h.2.2.2.1.ag g hn (by omega) (fun r j r0 r1 => by omega)) (h.2.2.2.2.1.ag g hn (by omega) (by omega) (fun r j z => by omega)) (by rw [g.gvE (by omega) (by omega) (by omega)]; exact h.2.2.2.2.2.1) e, Lo.of hO g hp⟩
/-- a deed told -/
def ddS (S : St) (V : Prop) [Decidable V] (e r i n : Int) : St := (nxA (sA S) V e r i n, nxK (sA S) V e r i n (sK S), nxH (sA S) V e r i n (sK S) (sH S), S.2.2.2)
theorem nxA_1 (A : Rm) (V : Prop) [Decidable V] (e r i n : Int) : (nxA A V e r i n).1 = A.1 ∧ (nxA A V e r i n).2.1 = A.2.1 ∧ (nxA A V e r i n).2.2.1 = A.2.2.1 := by
  unfold nxA
  split
  · exact actM_keep A e r i n
  · exact ⟨rfl, rfl, rfl⟩
theorem CQ.does (h : CQ w q q' s s' S) {V : Prop} [Decidable V] {e r i n : Int} {x : Option (Option sV × sW)} (c : cRes w q (sA S) (sK S) (sH S) V e r i n x) : XR w x (if V then whyM (sA S) e r i n else -1) (ddS S V e r i n) := by
  obtain ⟨w', k, c1, c2, c3, c4, c5, c6⟩ := c
  have hn := h.1.2.2.2.2.2.2
  have hq := h.1.2.1
  have hO := h.1.2.2.2.2.1
  have bk := hO.1 k (by omega) (by omega)
  rw [ow8 w c3.2] at bk
  have d := h.deed c3 (c4.mono (fun r j _ _ z => Or.inr z)) c2 (h.2.2.1.ag c4 (by omega) (by omega) (by omega) (by omega) (fun j => by omega)) (nxA_1 _ _ _ _ _ _).1
  exact ⟨w', c1, d.1.cl, d.2, by omega, by omega⟩
theorem x_put (h : CL w S) {r i b : Int} (hi : in32 i) : XR w (Ex pro 50 123 w [rV 32, iV r, iV i, iV b]) (if puV (sA S) r b then whyM (sA S) 0 r i b else -1) (ddS S (puV (sA S) r b) 0 r i b) := by
  obtain ⟨q, q', s, s', h⟩ := h
  exact CQ.does h (p_put (d := 44) h.1 hi)
theorem x_set (h : CL w S) {r i b : Int} (hi : in32 i) : XR w (Ex pro 50 125 w [rV 32, iV r, iV i, iV b]) (if puV (sA S) r b then whyM (sA S) 1 r i b else -1) (ddS S (puV (sA S) r b) 1 r i b) := by
  obtain ⟨q, q', s, s', h⟩ := h
  exact CQ.does h (p_set (d := 44) h.1 hi)
theorem x_cut (h : CL w S) {r i n : Int} (hi : in32 i) : XR w (Ex pro 50 126 w [rV 32, iV r, iV i, iV n]) (if cuV (sA S) r n then whyM (sA S) 2 r i n else -1) (ddS S (cuV (sA S) r n) 2 r i n) := by
  obtain ⟨q, q', s, s', h⟩ := h
  exact CQ.does h (p_cut (d := 44) h.1 hi)
theorem x_turn (h : CL w S) {r i n : Int} (hi : in32 i) : XR w (Ex pro 50 127 w [rV 32, iV r, iV i, iV n]) (if cuV (sA S) r n then whyM (sA S) 3 r i n else -1) (ddS S (cuV (sA S) r n) 3 r i n) := by
  obtain ⟨q, q', s, s', h⟩ := h
  exact CQ.does h (p_turn (d := 44) h.1 hi)
theorem x_join (h : CL w S) {r u : Int} (hu : in32 u) : XR w (Ex pro 50 129 w [rV 32, iV r, iV u]) (if twV (sA S) r u then whyM (sA S) 4 r 0 u else -1) (ddS S (twV (sA S) r u) 4 r 0 u) := by
  obtain ⟨q, q', s, s', h⟩ := h
  exact CQ.does h (p_join (d := 44) h.1 hu)
theorem x_split (h : CL w S) {r i u : Int} (hi : in32 i) (hu : in32 u) : XR w (Ex pro 50 130 w [rV 32, iV r, iV i, iV u]) (if twV (sA S) r u then whyM (sA S) 5 r i u else -1) (ddS S (twV (sA S) r u) 5 r i u) := by
  obtain ⟨q, q', s, s', h⟩ := h
  exact CQ.does h (p_split (d := 44) h.1 hi hu)
theorem x_type (h : CL w S) {i c : Int} (hi : in32 i) : XR w (Ex pro 50 138 w [rV 32, iV i, iV c]) (if 0 ≤ c ∧ c < 8 then whyM (sA S) 6 0 i c else -1) (ddS S (0 ≤ c ∧ c < 8) 6 0 i c) := by
  obtain ⟨q, q', s, s', h⟩ := h
  exact CQ.does h (p_type (d := 44) h.1 hi)
theorem x_erase (h : CL w S) {i n : Int} (hi : in32 i) : XR w (Ex pro 50 139 w [rV 32, iV i, iV n]) (if 1 ≤ n ∧ n ≤ 200 then whyM (sA S) 7 0 i n else -1) (ddS S (1 ≤ n ∧ n ≤ 200) 7 0 i n) := by
  obtain ⟨q, q', s, s', h⟩ := h
  exact CQ.does h (p_erase (d := 44) h.1 hi)
theorem x_feed (h : CL w S) (a b c e g : Int) : XR w (Ex pro 50 96 w [rV 32, iV a, iV b, iV c, iV e, iV g]) (if 920 < sn S then -1 else sn S + 20) (sA S, sK S, sH S, sT S, sF S, (if 920 < sn S then st S else fdF (st S) (sn S) a b c e g, if 920 < sn S then sn S else sn S + 20), S.2.2.2.2.2.2) := by
  obtain ⟨q, q', s, s', h⟩ := h
  have h' : CQ w q q' s s' S := h
  obtain ⟨w', a1, a2, a3⟩ := p_feed (d := 48) h'.1.1.1 h'.2.2.1 a b c e g
  exact ⟨w', a1, (h'.tape a3 a2).cl, Lo.of h'.1.2.2.2.2.1 a3.ag (fun r j z => Or.inl (by omega)), by rw [a3.ucE]; omega, by rw [a3.usE]; omega⟩
theorem x_end (h : CL w S) (a : Int) : XR w (Ex pro 50 98 w [rV 32, iV a]) (if 0 ≤ a ∧ a ≤ sn S then 1 else 0) (sA S, sK S, sH S, sT S, sF S, (st S, if 0 ≤ a ∧ a ≤ sn S then a else sn S), S.2.2.2.2.2.2) := by
  obtain ⟨q, q', s, s', h⟩ := h
  have h' : CQ w q q' s s' S := h
  obtain ⟨w', a1, a2, a3⟩ := p_end (d := 49) h'.1.1.1 h'.2.2.1 a
  exact ⟨w', a1, (h'.tape a3 a2).cl, Lo.of h'.1.2.2.2.2.1 a3.ag (fun r j z => Or.inl (by omega)), by rw [a3.ucE]; omega, by rw [a3.usE]; omega⟩
theorem x_paste (h : CL w S) (r i : Int) : XR w (Ex pro 50 128 w [rV 32, iV r, iV i]) (paY (sA S) (st S) (sn S) r i) (paA (sA S) (st S) (sn S) r i, paK (sA S) (st S) (sn S) r i (sK S), paH (sA S) (st S) (sn S) r i (sK S) (sH S), sT S, sF S, (st S, 0), S.2.2.2.2.2.2) := by
  obtain ⟨q, q', s, s', h⟩ := h
  have h' : CQ w q q' s s' S := h
  obtain ⟨w', k, a1, a2, a3, a4, a5, a6, a7⟩ := p_paste (d := 46) h'.1 h'.2.2.1 r i
  have e : (paA (sA S) (st S) (sn S) r i).1 = (sA S).1 := (paA_k _ _ _ _ _).1
  have d := h'.deed a4 a5 a2 a3 e
  exact ⟨w', a1, d.1.cl, d.2, by omega, by omega⟩
theorem x_undo (h : CL w S) (ho : HOk (sA S) (sK S) (sH S)) : XR w (Ex pro 50 140 w [rV 32]) (if sK S = 0 then -1 else sK S - 1) (if sK S = 0 then sA S else sH S (sK S - 1), if sK S = 0 then 0 else sK S - 1, sH S, S.2.2.2) := by
  obtain ⟨q, q', s, s', h⟩ := h
  have h' : CQ w q q' s s' S := h
  obtain ⟨w', a1, a2, a3, a4, a5⟩ := p_undo (d := 46) h'.1
  have hq := h'.1.2.1
  have hn := h'.1.2.2.2.2.2.2
  have hk := h'.1.2.2.2.1.2.2.1
  have e : (if sK S = 0 then sA S else sH S (sK S - 1)).1 = (sA S).1 := by
    split
    · rfl
    · exact (ho (sK S - 1) (by omega) (by omega)).1
  have d := h'.deed (k := 0) (by omega) (a3.mono (fun r j _ _ z => by omega)) a2 (h'.2.2.1.ag a3 (by omega) (by omega) (by omega) (by omega) (fun j => by omega)) e
  exact ⟨w', a1, d.1.cl, d.2, by omega, by omega⟩
theorem x_drawn (h : CL w S) (n x : Int) : XR w (Ex pro 50 141 w [rV 32, iV n, iV x]) (drY (sA S) n x) (drA (sA S) n x, drK (sA S) n x (sK S), drH (sA S) n x (sK S) (sH S), S.2.2.2) := by
  obtain ⟨q, q', s, s', h⟩ := h
  have h' : CQ w q q' s s' S := h
  obtain ⟨w', k, a1, a2, a3, a4, a5, a6, a7⟩ := p_drawn (d := 43) h'.1 h'.2.1 n x
  have hO := h'.1.2.2.2.2.1
  have hn := h'.1.2.2.2.2.2.2
  have bk := hO.1 k (by omega) (by omega)
  rw [ow8 w a4.2] at bk
  have e : (drA (sA S) n x).1 = (sA S).1 := (drA_k _ _ _).1
  have hp : ∀ r j, drC w k r j → loP r j ∨ slP w r := fun r j z => by
    by_cases y : gv w 86 k ≠ 0 ∧ gv w 86 k ≤ r ∧ r ≤ gv w 86 k + 16
    · exact Or.inr (slP.mk a4 y)
    · exact Or.inl (by omega)
  have d := h'.gen (fa' := sF S) a5 hp a2 a3 (h'.2.2.1.ag a5 (by omega) (by omega) (by omega) (by omega) (fun j => by omega)) (h'.2.2.2.1.ag a5 hn (by omega) (fun r j r0 r1 => by omega)) (h'.2.2.2.2.1.ag a5 hn (by omega) (by omega) (fun r j z => by omega)) (by rw [a5.gvE (by omega) (by omega) (by omega)]; exact h'.2.2.2.2.2.1) e
  exact ⟨w', a1, d.cl, Lo.of hO a5 hp, by omega, by omega⟩
end XO
