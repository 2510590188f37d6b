/-! ===== the reference's calls on the whole state ===== -/
def YR (w : sW) (m : Int) (x : Option (Option sV × sW)) (y : Int) (S : St) : Prop := ∃ w', x = some (some (iV y), w') ∧ ML w' m S ∧ Mf w w' (fun r _ => m ≤ r ∧ r ≤ m + 15)
abbrev moP (m r j : Int) : Prop := (r = m ∧ (j = 0 ∨ (2 ≤ j ∧ j ≤ 13) ∨ j = 24 ∨ j = 25 ∨ j = 29 ∨ j = 32 ∨ j = 33)) ∨ r = m + 1 ∨ r = m + 3 ∨ r = m + 5 ∨ r = m + 6 ∨ r = m + 7 ∨ r = m + 9 ∨ r = m + 13 ∨ r = m + 14 ∨ (r = m + 2 ∧ 2607 ≤ j ∧ j < 5820)
section YO
variable {w w' : sW} {P : Int → Int → Prop} {m : Int} {S : St}
theorem ML.gen (h : ML w m S) (g : Mf w w' P) (hp : ∀ r j, P r j → moP m r j) {hk' n' fa' : Int} {A' : Rm} {H' : Int → Rm} {t' T' : Int → Int} (hA : MoI w' m A') (hH : HsM w' m hk' H') (hO : HOk A' hk' H') (hT : TpI w' m 1 2 (m + 1) t' n') (hM : MtI w' m T') (hf : gv w' m 10 = fa') (e1 : A'.1 = (sA S).1) (e2 : A'.2.2.1 = (sA S).2.2.1) : ML w' m (A', hk', H', T', fa', (t', n'), S.2.2.2.2.2.2) := by
  obtain ⟨h1, h2, h3, h4, h5, h6, h7, h8, h9, h10, h11, h12⟩ := h
  have no : ∀ r j, ¬ moP m r j → ¬ P r j := fun r j z p => z (hp r j p)
  have M' := h1.mf g (fun j z => no _ _ (by omega))
  have A4 := h2.2.2.2.1
  refine ⟨M', hA, ⟨M', hA.2.1, hA.2.2.2.1, fun r r0 r1 => ?_⟩, hH, hO, hT, hM, hf, ?_, h10.mf g (no _ _ (by omega)) (fun x x0 x1 => no _ _ (by omega)) (fun r r0 r1 => no _ _ (by omega)), h11.mf g (no _ _ (by omega)) (fun x x0 x1 => no _ _ (by omega)) (fun r r0 r1 => no _ _ (by omega)), h12.mf g (no _ _ (by omega)) (no _ _ (by omega)) (fun j => no _ _ (by omega))⟩
  · rw [g.gvE (no _ _ (by omega))]
    show nmR (A'.2.2.1 r) _
    rw [e2]
    exact h3.2.2.2 r r0 (by
      have r1' : r < A'.1 := r1
      rw [e1] at r1'
      exact r1')
  · show SeN (gv w' (m + 2)) A'.1 _ _
    rw [e1]
    exact h9.cg (fun x x0 x1 => g.gvE (no _ _ (by omega)))
theorem YR.of {x : Option (Option sV × sW)} {y : Int} (hx : x = some (some (iV y), w')) (h : ML w' m S) (g : Mf w w' P) (hp : ∀ r j, P r j → m ≤ r ∧ r ≤ m + 15) : YR w m x y S := ⟨w', hx, h, g.mono hp⟩
/-- the same, but 'thrown' -/
theorem ML.t0 (h : ML w m S) {v : Int} : ML (sv w m 0 v) m S := by
  have g := Mf.svI w m 0 v
  have h' := h
  obtain ⟨h1, h2, h3, h4, h5, h6, h7, h8, h9, h10, h11, h12⟩ := h
  exact h'.gen g (fun r j z => by omega) (h2.mf g (by omega) (fun j z => by omega)) (h4.mf g (by omega) (fun j => by omega)) h5 (h6.mf g (by omega) (by omega) (fun j => by omega)) (h7.mf g (by omega) (fun j => by omega)) (by rw [g.gvE (by omega)]; exact h8) rfl rfl
theorem YR.same0 (h : ML w m S) {y : Int} : YR w m (some (some (iV y), sv w m 0 0)) y S := ⟨_, rfl, h.t0, (Mf.svI w m 0 0).mono (fun r j z => by omega)⟩
theorem HOk.nx {A : Rm} {hk : Int} {H : Int → Rm} (h : HOk A hk H) (h0 : 0 ≤ hk ∧ hk ≤ 8) (V : Prop) [Decidable V] (e r i n : Int) : HOk (nxA A V e r i n) (nxK A V e r i n hk) (nxH A V e r i n hk H) := by
  unfold nxA nxK nxH
  by_cases c : V ∧ whyM A e r i n = 0
  · rw [if_pos c, if_pos c, if_pos c]
    exact (h.push h0).cg (actM_keep A e r i n)
  · rw [if_neg c, if_neg c, if_neg c]
    exact h
/-- a deed -/
theorem ML.does (h : ML w m S) {V : Prop} [Decidable V] {e r i n : Int} (g : Mf w w' (dM m)) (hA : MoI w' m (nxA (sA S) V e r i n)) (hH : HsM w' m (nxK (sA S) V e r i n (sK S)) (nxH (sA S) V e r i n (sK S) (sH S))) : ML w' m (ddS S V e r i n) := by
  have h' := h
  obtain ⟨h1, h2, h3, h4, h5, h6, h7, h8, h9, h10, h11, h12⟩ := h
  have k := nxA_1 (sA S) V e r i n
  exact h'.gen g (fun r j z => by omega) hA hH (h5.nx h4.2.1 V e r i n) (h6.mf g (by omega) (by omega) (fun j => by omega)) (h7.mf g (by omega) (fun j => by omega)) (by rw [g.gvE (by omega)]; exact h8) k.1 k.2.2
theorem y_put (h : ML w m S) {r i b : Int} (hi : in32 i) : YR w m (Ex pro 50 239 w [rV m, iV r, iV i, iV b]) (if puV (sA S) r b then whyM (sA S) 0 r i b else -1) (ddS S (puV (sA S) r b) 0 r i b) := by
  obtain ⟨w', a1, a2, a3, a4⟩ := q_put (d := 42) h.1 h.2.1 h.2.2.2.1 hi
  exact YR.of a1 (h.does a4 a2 a3) a4 (fun r j z => by omega)
theorem y_set (h : ML w m S) {r i b : Int} (hi : in32 i) : YR w m (Ex pro 50 240 w [rV m, iV r, iV i, iV b]) (if puV (sA S) r b then whyM (sA S) 1 r i b else -1) (ddS S (puV (sA S) r b) 1 r i b) := by
  obtain ⟨w', a1, a2, a3, a4⟩ := q_set (d := 42) h.1 h.2.1 h.2.2.2.1 hi
  exact YR.of a1 (h.does a4 a2 a3) a4 (fun r j z => by omega)
theorem y_cut (h : ML w m S) {r i n : Int} (hi : in32 i) : YR w m (Ex pro 50 241 w [rV m, iV r, iV i, iV n]) (if cuV (sA S) r n then whyM (sA S) 2 r i n else -1) (ddS S (cuV (sA S) r n) 2 r i n) := by
  obtain ⟨w', a1, a2, a3, a4⟩ := q_cut (d := 42) h.1 h.2.1 h.2.2.2.1 hi
  exact YR.of a1 (h.does a4 a2 a3) a4 (fun r j z => by omega)
theorem y_turn (h : ML w m S) {r i n : Int} (hi : in32 i) : YR w m (Ex pro 50 242 w [rV m, iV r, iV i, iV n]) (if cuV (sA S) r n then whyM (sA S) 3 r i n else -1) (ddS S (cuV (sA S) r n) 3 r i n) := by
  obtain ⟨w', a1, a2, a3, a4⟩ := q_turn (d := 42) h.1 h.2.1 h.2.2.2.1 hi
  exact YR.of a1 (h.does a4 a2 a3) a4 (fun r j z => by omega)
theorem y_join (h : ML w m S) (r u : Int) : YR w m (Ex pro 50 245 w [rV m, iV r, iV u]) (if twV (sA S) r u then whyM (sA S) 4 r 0 u else -1) (ddS S (twV (sA S) r u) 4 r 0 u) := by
  obtain ⟨w', a1, a2, a3, a4⟩ := q_join (d := 42) h.1 h.2.1 h.2.2.2.1 r u
  exact YR.of a1 (h.does a4 a2 a3) a4 (fun r j z => by omega)
theorem y_split (h : ML w m S) {r i u : Int} (hi : in32 i) : YR w m (Ex pro 50 246 w [rV m, iV r, iV i, iV u]) (if twV (sA S) r u then whyM (sA S) 5 r i u else -1) (ddS S (twV (sA S) r u) 5 r i u) := by
  obtain ⟨w', a1, a2, a3, a4⟩ := q_split (d := 42) h.1 h.2.1 h.2.2.2.1 hi
  exact YR.of a1 (h.does a4 a2 a3) a4 (fun r j z => by omega)
theorem y_type (h : ML w m S) {i c : Int} (hi : in32 i) : YR w m (Ex pro 50 247 w [rV m, iV i, iV c]) (if 0 ≤ c ∧ c < 8 then whyM (sA S) 6 0 i c else -1) (ddS S (0 ≤ c ∧ c < 8) 6 0 i c) := by
  obtain ⟨w', a1, a2, a3, a4⟩ := q_type (d := 42) h.1 h.2.1 h.2.2.2.1 hi
  exact YR.of a1 (h.does a4 a2 a3) a4 (fun r j z => by omega)
theorem y_erase (h : ML w m S) {i n : Int} (hi : in32 i) : YR w m (Ex pro 50 248 w [rV m, iV i, iV n]) (if 1 ≤ n ∧ n ≤ 200 then whyM (sA S) 7 0 i n else -1) (ddS S (1 ≤ n ∧ n ≤ 200) 7 0 i n) := by
  obtain ⟨w', a1, a2, a3, a4⟩ := q_erase (d := 42) h.1 h.2.1 h.2.2.2.1 hi
  exact YR.of a1 (h.does a4 a2 a3) a4 (fun r j z => by omega)
/-- only the tape -/
theorem ML.tape (h : ML w m S) (g : Mf w w' (fun r j => (r = m ∧ (j = 0 ∨ j = 2)) ∨ r = m + 1)) {t' : Int → Int} {n' : Int} (hT : TpI w' m 1 2 (m + 1) t' n') : ML w' m (sA S, sK S, sH S, sT S, sF S, (t', n'), S.2.2.2.2.2.2) := by
  have h' := h
  obtain ⟨h1, h2, h3, h4, h5, h6, h7, h8, h9, h10, h11, h12⟩ := h
  exact h'.gen g (fun r j z => by omega) (h2.mf g (by omega) (fun j z => by omega)) (h4.mf g (by omega) (fun j => by omega)) h5 hT (h7.mf g (by omega) (fun j => by omega)) (by rw [g.gvE (by omega)]; exact h8) rfl rfl
theorem y_feed (h : ML w m S) (a b c e g : Int) : YR w m (Ex pro 50 152 w [rV m, iV a, iV b, iV c, iV e, iV g]) (if 920 < sn S then -1 else sn S + 20) (sA S, sK S, sH S, sT S, sF S, (if 920 < sn S then st S else fdF (st S) (sn S) a b c e g, if 920 < sn S then sn S else sn S + 20), S.2.2.2.2.2.2) := by
  obtain ⟨w', a1, a2, a3⟩ := q_feed (d := 48) h.1.1.1 h.2.2.2.2.2.1 a b c e g
  exact YR.of a1 (h.tape a3 a2) a3 (fun r j z => by omega)
theorem y_end (h : ML w m S) (a : Int) : YR w m (Ex pro 50 153 w [rV m, iV a]) (if 0 ≤ a ∧ a ≤ sn S then 1 else 0) (sA S, sK S, sH S, sT S, sF S, (st S, if 0 ≤ a ∧ a ≤ sn S then a else sn S), S.2.2.2.2.2.2) := by
  obtain ⟨w', a1, a2, a3⟩ := q_end (d := 49) h.1.1.1 h.2.2.2.2.2.1 a
  exact YR.of a1 (h.tape a3 a2) a3 (fun r j z => by omega)
theorem HOk.pa {A : Rm} {hk : Int} {H : Int → Rm} (h : HOk A hk H) (h0 : 0 ≤ hk ∧ hk ≤ 8) (t : Int → Int) (n r i : Int) : HOk (paA A t n r i) (paK A t n r i hk) (paH A t n r i hk H) := by
  unfold paA paK paH
  by_cases c : paV A t n r i
  · rw [if_pos c, if_pos c, if_pos c]
    exact (h.push h0).cg ⟨rfl, rfl, rfl⟩
  · rw [if_neg c, if_neg c, if_neg c]
    exact h
theorem y_paste (h : ML w m S) (r i : Int) : YR w m (Ex pro 50 243 w [rV m, iV r, iV i]) (paY (sA S) (st S) (sn S) r i) (paA (sA S) (st S) (sn S) r i, paK (sA S) (st S) (sn S) r i (sK S), paH (sA S) (st S) (sn S) r i (sK S) (sH S), sT S, sF S, (st S, 0), S.2.2.2.2.2.2) := by
  have h' := h
  obtain ⟨h1, h2, h3, h4, h5, h6, h7, h8, h9, h10, h11, h12⟩ := h
  obtain ⟨w', a1, a2, a3, a4, a5⟩ := q_paste (d := 46) h1 h2 h4 h6 r i
  have k := paA_k (sA S) (st S) (sn S) r i
  exact YR.of a1 (h'.gen a5 (fun r j z => by omega) a2 a3 (h5.pa h4.2.1 _ _ _ _) a4 (h7.mf a5 (by omega) (fun j => by omega)) (by rw [a5.gvE (by omega)]; exact h8) k.1 k.2.2) a5 (fun r j z => by omega)
theorem y_undo (h : ML w m S) : YR w m (Ex pro 50 249 w [rV m]) (if sK S = 0 then -1 else sK S - 1) (if sK S = 0 then sA S else sH S (sK S - 1), if sK S = 0 then 0 else sK S - 1, sH S, S.2.2.2) := by
  have h' := h
  obtain ⟨h1, h2, h3, h4, h5, h6, h7, h8, h9, h10, h11, h12⟩ := h
  obtain ⟨w', a1, a2, a3, a4⟩ := q_undo (d := 48) h1 h2 h4 h5
  have k0 : 0 ≤ sK S := h4.2.1.1
  have e : (if sK S = 0 then sA S else sH S (sK S - 1)).1 = (sA S).1 ∧ (if sK S = 0 then sA S else sH S (sK S - 1)).2.1 = (sA S).2.1 ∧ (if sK S = 0 then sA S else sH S (sK S - 1)).2.2.1 = (sA S).2.2.1 := by
    by_cases c : sK S = 0
    · rw [if_pos c]; exact ⟨rfl, rfl, rfl⟩
    · rw [if_neg c]
      exact h5 (sK S - 1) (by omega) (by show sK S - 1 < sK S; omega)
  have ho : HOk (if sK S = 0 then sA S else sH S (sK S - 1)) (if sK S = 0 then 0 else sK S - 1) (sH S) := fun j j0 j1 => by
    have j2 : j < sK S := by
      by_cases c : sK S = 0
      · rw [if_pos c] at j1; omega
      · rw [if_neg c] at j1; omega
    have := h5 j j0 j2
    exact ⟨this.1.trans e.1.symm, this.2.1.trans e.2.1.symm, this.2.2.trans e.2.2.symm⟩
  exact YR.of a1 (h'.gen a4 (fun r j z => by omega) a2 a3 ho (h6.mf a4 (by omega) (by omega) (fun j => by omega)) (h7.mf a4 (by omega) (fun j => by omega)) (by rw [a4.gvE (by omega)]; exact h8) e.1 e.2.2) a4 (fun r j z => by omega)
theorem HOk.dr {A : Rm} {hk : Int} {H : Int → Rm} (h : HOk A hk H) (h0 : 0 ≤ hk ∧ hk ≤ 8) (n x : Int) : HOk (drA A n x) (drK A n x hk) (drH A n x hk H) := by
  have k := drA_k A n x
  unfold drK drH
  split
  · exact (h.push h0).cg k
  · exact h.cg k
theorem y_drawn (h : ML w m S) (n x : Int) : YR w m (Ex pro 50 253 w [rV m, iV n, iV x]) (drY (sA S) n x) (drA (sA S) n x, drK (sA S) n x (sK S), drH (sA S) n x (sK S) (sH S), S.2.2.2) := by
  have h' := h
  obtain ⟨h1, h2, h3, h4, h5, h6, h7, h8, h9, h10, h11, h12⟩ := h
  obtain ⟨w', a1, a2, a3, a4⟩ := q_drawn (d := 41) h1 h2 h4 n x
  have k := drA_k (sA S) n x
  exact YR.of a1 (h'.gen a4 (fun r j z => by omega) a2 a3 (h5.dr h4.2.1 n x) (h6.mf a4 (by omega) (by omega) (fun j => by omega)) (h7.mf a4 (by omega) (fun j => by omega)) (by rw [a4.gvE (by omega)]; exact h8) k.1 k.2.2) a4 (fun r j z => by omega)
end YO
