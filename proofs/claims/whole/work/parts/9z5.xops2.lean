/-! ===== the class's calls on the whole state: texts, images ===== -/
section XT
variable {w w' : sW} {P : Int → Int → Prop} {q q' s s' : Int} {S : St}
/-- what a text that was read leaves, but for the sentence -/
theorem x_seek (h : CL w S) (r : Int) : XR w (Ex pro 50 120 w [rV 32, iV r]) (if skV (sA S) (st S) (sn S) r then (skF (bA (sA S) r) (st S) (sn S) (skN (sA S) r (sn S)) 0 (sQ S) 0).2 else -1) (sA S, sK S, sH S, sT S, sF S, (st S, 0), (if skV (sA S) (st S) (sn S) r then (skF (bA (sA S) r) (st S) (sn S) (skN (sA S) r (sn S)) 0 (sQ S) 0).1 else sQ S, if skV (sA S) (st S) (sn S) r then (skF (bA (sA S) r) (st S) (sn S) (skN (sA S) r (sn S)) 0 (sQ S) 0).2 else sq S), sZ S, sIm S, sJm S) := by
  obtain ⟨q, q', s, s', h⟩ := h
  have h' : CQ w q q' s s' S := h
  have hq := h'.1.2.1
  have hO := h'.1.2.2.2.2.1
  have hn := h'.1.2.2.2.2.2.2
  have q2 := h'.2.1.2.2
  obtain ⟨w', a1, a2, a3, a4⟩ := p_seek (d := 47) hq hn h'.1.1 h'.2.2.1 h'.2.2.2.2.2.2.2.2 r
  have ga := a4.ag
  refine ⟨w', a1, ⟨q, q', s, s', h'.1.ag ga (by omega) (by omega) (fun r j r0 r1 => by omega) (fun r j r0 r1 => by omega) (fun r j z => by omega), h'.2.1.ag ga hn (by omega) (fun r j r0 r1 => by omega), a2, h'.2.2.2.1.ag ga hn (by omega) (fun r j r0 r1 => by omega), h'.2.2.2.2.1.ag ga hn (by omega) (by omega) (fun r j z => by omega), by rw [a4.gvE (by omega)]; exact h'.2.2.2.2.2.1, h'.2.2.2.2.2.2.1.ag ga hn (by omega) (by omega) (fun r j r0 r1 => by omega), h'.2.2.2.2.2.2.2.1.ag hO ga hn (by omega) (by omega) (fun r j z => by omega) (fun r j z p => absurd p (by omega)), a3⟩, ⟨_, ga, fun r j z => Or.inl (by omega)⟩, by rw [a4.ucE]; omega, by rw [a4.usE]; omega⟩
/-- the room's text -/
def rmS (S : St) : St := if (rmF (st S) (sn S) 900 940 0 0 0 E0).1 = 0 then ((rmF (st S) (sn S) 900 940 0 0 0 E0).2.2.2, 0, sH S, sT S, 0, (st S, 0), (sQ S, sq S), (false, fN), sIm S, sJm S) else (sA S, sK S, sH S, sT S, (rmF (st S) (sn S) 900 940 0 0 0 E0).1, (st S, 0), S.2.2.2.2.2.2)
def rmY (S : St) : Int := if (rmF (st S) (sn S) 900 940 0 0 0 E0).1 = 0 then (rmF (st S) (sn S) 900 940 0 0 0 E0).2.2.1 else w32 (-1 - (rmF (st S) (sn S) 900 940 0 0 0 E0).2.1)
theorem x_room (h : CL w S) : XR w (Ex pro 50 99 w [rV 32]) (rmY S) (rmS S) := by
  obtain ⟨q, q', s, s', h⟩ := h
  have h' : CQ w q q' s s' S := h
  have hq := h'.1.2.1
  have hO := h'.1.2.2.2.2.1
  have hn := h'.1.2.2.2.2.2.2
  have q2 := h'.2.1.2.2
  unfold rmY rmS
  by_cases e : (rmF (st S) (sn S) 900 940 0 0 0 E0).1 = 0
  · rw [if_pos e, if_pos e]
    obtain ⟨⟨e1, e2, e3⟩, e4, c, L, e5, e6, e7⟩ := h'.2.2.2.2.2.2.1
    obtain ⟨w', a1, a2, a3, a4, a5, a6, a7, a8⟩ := p_roomY (d := 44) (s := s) h'.1 h'.2.1 h'.2.2.1 h'.2.2.2.1.1 h'.2.2.2.1.2 ⟨e1, e5.1.1.1, by omega⟩ e
    have ga := a8.ag
    have hO' := a2.2.2.2.2.1
    have g6' : g6 w' s s' (rmF (st S) (sn S) 900 940 0 0 0 E0).2.2.2.1 (false, fN) := ⟨⟨by rw [a8.gvE (by omega)]; exact e1, by rw [a8.gvE (by omega)]; exact e2, e3⟩, e4.mf a8 (fun j j0 j1 => by omega), 0, [], ⟨e5.1.mf a8 (fun j j0 j1 => by omega), by rw [a7.1]; rfl, by simp, a7.2, by omega, trivial⟩, fun _ => rfl, fun z => Bool.noConfusion z⟩
    refine ⟨w', a1, ⟨q', q, s, s', a2, a3, a4, ⟨⟨by rw [a8.gvE (by omega)]; exact h'.2.2.2.1.1.1, by rw [a8.kdE]; exact h'.2.2.2.1.1.2⟩, a6⟩, h'.2.2.2.2.1.ag ga hn (by omega) (by omega) (fun r j z => by omega), a5, g6', h'.2.2.2.2.2.2.2.1.ag hO ga hn (by omega) (by omega) (fun r j z => by omega) (fun r j z p => absurd p (by omega)), h'.2.2.2.2.2.2.2.2.mf a8 (by omega) (by omega) (fun j => by omega)⟩, ⟨_, ga, fun r j z => Or.inl (by omega)⟩, by rw [a8.ucE]; omega, by rw [a8.usE]; omega⟩
  · rw [if_neg e, if_neg e]
    obtain ⟨w', a1, a2, a3, a4, a5, a6, a7⟩ := p_roomN (d := 44) h'.1 h'.2.1 h'.2.2.1 h'.2.2.2.1.1 h'.2.2.2.1.2 e
    have ga := a7.ag
    have hp : ∀ r j, ((r = 32 ∧ (j = 1 ∨ j = 13)) ∨ (r = 34 ∧ j ≤ 11) ∨ (q' ≤ r ∧ r ≤ q' + 16)) → loP r j ∨ slP w r := fun r j z => Or.inl (by omega)
    have d := h'.gen ga hp a2 a3 a4 ⟨⟨by rw [a7.gvE (by omega)]; exact h'.2.2.2.1.1.1, by rw [a7.kdE]; exact h'.2.2.2.1.1.2⟩, a6⟩ (h'.2.2.2.2.1.ag ga hn (by omega) (by omega) (fun r j z => by omega)) a5 rfl
    exact ⟨w', a1, d.cl, Lo.of hO ga hp, by rw [a7.ucE]; omega, by rw [a7.usE]; omega⟩
/-- the book's text -/
def bkSt (S : St) (a1 : Int) : St := if a1 = 0 ∨ a1 = 1 then (if (bkFa (st S) (sn S) (sA S)).1 = 0 then (if bkO (st S) (sn S) (sA S) a1 then (bkDa (st S) (sn S) (sA S)).2.2 else sA S, if bkO (st S) (sn S) (sA S) a1 then pushK (sK S) else sK S, if bkO (st S) (sn S) (sA S) a1 then pushH (sK S) (sH S) (sA S) else sH S, bkT (st S) (sn S) (sA S), 0, (st S, 0), S.2.2.2.2.2.2) else (sA S, sK S, sH S, sT S, (bkFa (st S) (sn S) (sA S)).1, (st S, 0), S.2.2.2.2.2.2)) else S
def bkYt (S : St) (a1 : Int) : Int := if a1 = 0 ∨ a1 = 1 then (if (bkFa (st S) (sn S) (sA S)).1 = 0 then bkY (st S) (sn S) (sA S) else w32 (-2 - (bkFa (st S) (sn S) (sA S)).2.1)) else -1000
theorem bkDa_k (t : Int → Int) (n : Int) (A : Rm) : (bkDa t n A).2.2.1 = A.1 ∧ (bkDa t n A).2.2.2.1 = A.2.1 ∧ (bkDa t n A).2.2.2.2.1 = A.2.2.1 := by
  have := bkD_keep (c := (bkFa t n A).2.2.1) (L := (bkFa t n A).2.2.2) 41 0 A
  exact ⟨this.1, this.2.1, this.2.2.1⟩
theorem x_book (h : CL w S) (a1 : Int) : XR w (Ex pro 50 142 w [rV 32, iV a1]) (bkYt S a1) (bkSt S a1) := by
  have hc := h
  obtain ⟨q, q', s, s', h⟩ := h
  have h' : CQ w q q' s s' S := h
  have hq := h'.1.2.1
  have hO := h'.1.2.2.2.2.1
  have hn := h'.1.2.2.2.2.2.2
  have q2 := h'.2.1.2.2
  unfold bkYt bkSt
  by_cases ha : a1 = 0 ∨ a1 = 1
  · rw [if_pos ha, if_pos ha]
    by_cases e : (bkFa (st S) (sn S) (sA S)).1 = 0
    · rw [if_pos e, if_pos e]
      obtain ⟨w', k, q1, q2', b1, b2, b3, b4, b5, b6, b7, b8, b9, b10, b11⟩ := p_bookY (d := 43) h'.1 h'.2.1 h'.2.2.1 h'.2.2.2.1.1 h'.2.2.2.1.2 h'.2.2.2.2.1 e ha
      have bk := hO.1 k (by omega) (by omega)
      rw [ow8 w b8.2] at bk
      have hp : ∀ r j, bkC w k r j → loP r j ∨ slP w r := fun r j z => by
        by_cases y : gv w 86 k ≠ 0 ∧ gv w 86 k ≤ r ∧ r ≤ gv w 86 k + 16
        · exact Or.inr (slP.mk b8 y)
        · exact Or.inl (by omega)
      have d := h'.gen b9 hp b2 b3 b4 ⟨⟨by rw [b9.gvE (by omega) (by omega) (by omega)]; exact h'.2.2.2.1.1.1, by rw [b9.kdE (by omega) (by omega)]; exact h'.2.2.2.1.1.2⟩, b6⟩ b7 b5 (by
        split
        · exact (bkDa_k _ _ _).1
        · rfl)
      exact ⟨w', b1, d.cl, Lo.of hO b9 hp, by omega, by omega⟩
    · rw [if_neg e, if_neg e]
      obtain ⟨w', b1, b2, b3, b4, b5, b6, b7, b8⟩ := p_bookN (d := 43) h'.1 h'.2.1 h'.2.2.1 h'.2.2.2.1.1 h'.2.2.2.1.2 h'.2.2.2.2.1 e ha
      have ga := b8.ag
      have hp : ∀ r j, bkX r j → loP r j ∨ slP w r := fun r j z => Or.inl (by omega)
      have d := h'.gen ga hp b2 b3 b4 ⟨⟨by rw [b8.gvE (by omega)]; exact h'.2.2.2.1.1.1, by rw [b8.kdE]; exact h'.2.2.2.1.1.2⟩, b6⟩ b7 b5 rfl
      exact ⟨w', b1, d.cl, Lo.of hO ga hp, by rw [b8.ucE]; omega, by rw [b8.usE]; omega⟩
  · rw [if_neg ha, if_neg ha, p_bookX (d := 49) ha]
    exact XR.same hc
/-- the sentence's text -/
def seSt (S : St) : St := if (seF (st S) (sn S) 200 (sA S)).1.1 = 0 then (sA S, sK S, sH S, sT S, 0, (st S, 0), (sQ S, sq S), (true, (seF (st S) (sn S) 200 (sA S)).2.2), sIm S, sJm S) else (sA S, sK S, sH S, sT S, (seF (st S) (sn S) 200 (sA S)).1.1, (st S, 0), S.2.2.2.2.2.2)
def seYt (S : St) : Int := if (seF (st S) (sn S) 200 (sA S)).1.1 = 0 then (seF (st S) (sn S) 200 (sA S)).2.1 else w32 (-1 - (seF (st S) (sn S) 200 (sA S)).1.2.1)
theorem x_sentence (h : CL w S) : XR w (Ex pro 50 144 w [rV 32]) (seYt S) (seSt S) := by
  obtain ⟨q, q', s, s', h⟩ := h
  have h' : CQ w q q' s s' S := h
  have hq := h'.1.2.1
  have hO := h'.1.2.2.2.2.1
  have hn := h'.1.2.2.2.2.2.2
  have q2 := h'.2.1.2.2
  have h6 := h'.2.2.2.2.2.2.1
  obtain ⟨⟨e1, e2, e3⟩, e4, e5⟩ := h'.2.2.2.2.2.2.1
  unfold seYt seSt
  by_cases e : (seF (st S) (sn S) 200 (sA S)).1.1 = 0
  · rw [if_pos e, if_pos e]
    obtain ⟨w', a1, a2, a3, a4, a5, a6⟩ := p_senY (d := 26) h'.1 h'.2.2.1 h'.2.2.2.1.1 h'.2.2.2.1.2 ⟨e1, by omega⟩ ⟨e2, by omega⟩ e4 e
    have ga := a6.ag
    have E5 : SeSh w' s := by
      obtain ⟨c, L, y, _⟩ := e5
      exact y.1.mf a6 (fun j j0 j1 => by omega)
    exact ⟨w', a1, ⟨q, q', s', s, h'.1.ag ga (by omega) (by omega) (fun r j r0 r1 => by omega) (fun r j r0 r1 => by omega) (fun r j z => by omega), h'.2.1.ag ga hn (by omega) (fun r j r0 r1 => by omega), a2, h'.2.2.2.1.ag ga hn (by omega) (fun r j r0 r1 => by omega), h'.2.2.2.2.1.ag ga hn (by omega) (by omega) (fun r j z => by omega), a3, ⟨⟨a5.1, a5.2, by omega⟩, E5, a4⟩, h'.2.2.2.2.2.2.2.1.ag hO ga hn (by omega) (by omega) (fun r j z => by omega) (fun r j z p => absurd p (by omega)), h'.2.2.2.2.2.2.2.2.mf a6 (by omega) (by omega) (fun j => by omega)⟩, ⟨_, ga, fun r j z => Or.inl (by omega)⟩, by rw [a6.ucE]; omega, by rw [a6.usE]; omega⟩
  · rw [if_neg e, if_neg e]
    obtain ⟨w', a1, a2, a3, a4, a5⟩ := p_senN (d := 26) h'.1 h'.2.2.1 h'.2.2.2.1.1 h'.2.2.2.1.2 ⟨e2, by omega⟩ e4 e
    have ga := a5.ag
    have E6 : g6 w' s s' (sA S).1 (sZ S) := ⟨⟨by rw [a5.gvE (by omega)]; exact e1, by rw [a5.gvE (by omega)]; exact e2, e3⟩, a4, e5.eq (a5.eqO (fun r j r0 r1 => by omega))⟩
    exact ⟨w', a1, ⟨q, q', s, s', h'.1.ag ga (by omega) (by omega) (fun r j r0 r1 => by omega) (fun r j r0 r1 => by omega) (fun r j z => by omega), h'.2.1.ag ga hn (by omega) (fun r j r0 r1 => by omega), a2, h'.2.2.2.1.ag ga hn (by omega) (fun r j r0 r1 => by omega), h'.2.2.2.2.1.ag ga hn (by omega) (by omega) (fun r j z => by omega), a3, E6, h'.2.2.2.2.2.2.2.1.ag hO ga hn (by omega) (by omega) (fun r j z => by omega) (fun r j z p => absurd p (by omega)), h'.2.2.2.2.2.2.2.2.mf a5 (by omega) (by omega) (fun j => by omega)⟩, ⟨_, ga, fun r j z => Or.inl (by omega)⟩, by rw [a5.ucE]; omega, by rw [a5.usE]; omega⟩
theorem x_said (h : CL w S) (k : Int) : XR w (Ex pro 50 145 w [rV 32, iV k]) (saidF (sA S) (sZ S).1 (sZ S).2 k) S := by
  obtain ⟨q, q', s, s', h⟩ := h
  have h' : CQ w q q' s s' S := h
  have hq := h'.1.2.1
  have hO := h'.1.2.2.2.2.1
  have hn := h'.1.2.2.2.2.2.2
  have q2 := h'.2.1.2.2
  obtain ⟨⟨e1, e2, e3⟩, e4, e5⟩ := h'.2.2.2.2.2.2.1
  obtain ⟨w', a1, a2⟩ := p_said (d := 43) h'.1.1 hq ⟨e1, by omega⟩ e5 k
  have ga := a2.ag
  have E6 : g6 w' s s' (sA S).1 (sZ S) := ⟨⟨by rw [a2.gvE (by omega)]; exact e1, by rw [a2.gvE (by omega)]; exact e2, e3⟩, e4.mf a2 (fun j j0 j1 => by omega), by
    obtain ⟨c, L, y1, y2, y3⟩ := e5
    exact ⟨c, L, y1.mf a2 (fun j j0 j1 => by omega) (fun r j r0 r1 => by omega), y2, y3⟩⟩
  exact ⟨w', a1, ⟨q, q', s, s', h'.1.ag ga (by omega) (by omega) (fun r j r0 r1 => by omega) (fun r j r0 r1 => by omega) (fun r j z => by omega), h'.2.1.ag ga hn (by omega) (fun r j r0 r1 => by omega), h'.2.2.1.mf a2 (by omega) (by omega) (fun j => by omega), h'.2.2.2.1.ag ga hn (by omega) (fun r j r0 r1 => by omega), h'.2.2.2.2.1.ag ga hn (by omega) (by omega) (fun r j z => by omega), by rw [a2.gvE (by omega)]; exact h'.2.2.2.2.2.1, E6, h'.2.2.2.2.2.2.2.1.ag hO ga hn (by omega) (by omega) (fun r j z => by omega) (fun r j z p => absurd p (by omega)), h'.2.2.2.2.2.2.2.2.mf a2 (by omega) (by omega) (fun j => by omega)⟩, ⟨_, ga, fun r j z => Or.inl (by omega)⟩, by rw [a2.ucE]; omega, by rw [a2.usE]; omega⟩
/-- an image kept -/
def imSt (S : St) (k : Int) : St := if 0 ≤ k ∧ k < 2 then (sA S, sK S, sH S, sT S, sF S, (st S, sn S), (sQ S, sq S), sZ S, if k = 0 then (true, sA S, (sZ S).1, (sZ S).2) else sIm S, if k = 0 then sJm S else (true, sA S, (sZ S).1, (sZ S).2)) else S
theorem x_image (h : CL w S) (k : Int) : XR w (Ex pro 50 146 w [rV 32, iV k]) (if 0 ≤ k ∧ k < 2 then 1 else 0) (imSt S k) := by
  have hc := h
  obtain ⟨q, q', s, s', h⟩ := h
  have h' : CQ w q q' s s' S := h
  have hq := h'.1.2.1
  have hO := h'.1.2.2.2.2.1
  have hn := h'.1.2.2.2.2.2.2
  have q2 := h'.2.1.2.2
  obtain ⟨⟨e1, e2, e3⟩, e4, e5⟩ := h'.2.2.2.2.2.2.1
  obtain ⟨i1, i2, i3⟩ := h'.2.2.2.2.2.2.2.1
  unfold imSt
  by_cases k2 : 0 ≤ k ∧ k < 2
  · rw [if_pos k2, if_pos k2]
    have main : ∀ (I : Imt), ImC w k I.1 I.2.1 I.2.2.1 I.2.2.2 → (∀ w', ImC w' k true (sA S) (sZ S).1 (sZ S).2 → (∀ i, 0 ≤ i → i < 2 → i ≠ k → ∀ e' B' b' f', ImC w i e' B' b' f' → ImC w' i e' B' b' f') → ImSh w' → g7 w' (if k = 0 then (true, sA S, (sZ S).1, (sZ S).2) else sIm S) (if k = 0 then sJm S else (true, sA S, (sZ S).1, (sZ S).2))) → XR w (Ex pro 50 146 w [rV 32, iV k]) 1 (sA S, sK S, sH S, sT S, sF S, (st S, sn S), (sQ S, sq S), sZ S, if k = 0 then (true, sA S, (sZ S).1, (sZ S).2) else sIm S, if k = 0 then sJm S else (true, sA S, (sZ S).1, (sZ S).2)) := fun I hI fin => by
      obtain ⟨w', a1, a2, a3, a4, a5, a6, a7, a8, a9⟩ := p_image (d := 47) h'.1 h'.2.1 ⟨e1, by omega⟩ e5 h'.2.2.2.1.2 i1 k2 hI
      have b8 := hO.1 (8 + k) (by omega) (by omega)
      have b10 := hO.1 (10 + k) (by omega) (by omega)
      rw [ow87 w k2] at b8
      rw [ow88 w k2] at b10
      exact ⟨w', a1, ⟨q, q', s, s', a2, a3, h'.2.2.1.ag a7 (by omega) (by omega) (by omega) (by omega) (fun j => by omega), h'.2.2.2.1.ag a7 hn (by omega) (fun r j r0 r1 => by omega), h'.2.2.2.2.1.ag a7 hn (by omega) (by omega) (fun r j z => by omega), by rw [a7.gvE (by omega) (by omega) (by omega)]; exact h'.2.2.2.2.2.1, ⟨⟨by rw [a7.gvE (by omega) (by omega) (by omega)]; exact e1, by rw [a7.gvE (by omega) (by omega) (by omega)]; exact e2, e3⟩, e4.eq (a7.eqO (by omega) (by omega) (fun r j r0 r1 => by omega)), a4⟩, fin w' a5 a6 (i1.ag a7 hn (by omega) (by omega)), h'.2.2.2.2.2.2.2.2.ag a7 (by omega) (by omega) (by omega) (by omega) (fun j => by omega)⟩, ⟨_, a7, fun r j z => by
        rcases z with z | z | z
        · exact Or.inl (by omega)
        · exact Or.inr (by omega)
        · exact Or.inr (by omega)⟩, by omega, by omega⟩
    by_cases k0 : k = 0
    · subst k0
      refine main (sIm S) i2 (fun w' y1 y2 y3 => ?_)
      rw [if_pos rfl, if_pos rfl]
      exact ⟨y3, y1, y2 1 (by omega) (by omega) (by omega) _ _ _ _ i3⟩
    · have k1 : k = 1 := by omega
      subst k1
      refine main (sJm S) i3 (fun w' y1 y2 y3 => ?_)
      rw [if_neg k0, if_neg k0]
      exact ⟨y3, y2 0 (by omega) (by omega) (by omega) _ _ _ _ i2, y1⟩
  · rw [if_neg k2, if_neg k2, p_imageX (d := 49) k2]
    exact XR.same hc
/-- an image come back to -/
def reI (S : St) (k : Int) : Imt := if k = 0 then sIm S else sJm S
def reSt (S : St) (k : Int) : St := if (0 ≤ k ∧ k < 2) ∧ (reI S k).1 = true then ((reI S k).2.1, 0, sH S, sT S, sF S, (st S, sn S), (sQ S, sq S), ((reI S k).2.2.1, (reI S k).2.2.2), sIm S, sJm S) else S
theorem x_restore (h : CL w S) (k : Int) : XR w (Ex pro 50 147 w [rV 32, iV k]) (if (0 ≤ k ∧ k < 2) ∧ (reI S k).1 = true then 1 else 0) (reSt S k) := by
  have hc := h
  obtain ⟨q, q', s, s', h⟩ := h
  have h' : CQ w q q' s s' S := h
  have hq := h'.1.2.1
  have hO := h'.1.2.2.2.2.1
  have hn := h'.1.2.2.2.2.2.2
  have q2 := h'.2.1.2.2
  obtain ⟨⟨e1, e2, e3⟩, e4, e5⟩ := h'.2.2.2.2.2.2.1
  obtain ⟨i1, i2, i3⟩ := h'.2.2.2.2.2.2.2.1
  unfold reSt
  by_cases k2 : 0 ≤ k ∧ k < 2
  · have hI : ImC w k (reI S k).1 (reI S k).2.1 (reI S k).2.2.1 (reI S k).2.2.2 := by
      unfold reI
      by_cases k0 : k = 0
      · subst k0
        rw [if_pos rfl]; exact i2
      · have k1 : k = 1 := by omega
        subst k1
        rw [if_neg k0]; exact i3
    by_cases y : (reI S k).1 = true
    · rw [if_pos ⟨k2, y⟩, if_pos ⟨k2, y⟩]
      rw [y] at hI
      have E5 : SeSh w s := by
        obtain ⟨c, L, y, _⟩ := e5
        exact y.1
      obtain ⟨w', a1, a2, a3, a4⟩ := p_rest1 (d := 47) h'.1 ⟨e1, by omega⟩ E5 h'.2.2.2.1.2 i1 k2 hI
      have ga := a4.ag
      exact ⟨w', a1, ⟨q, q', s, s', a2, h'.2.1.ag ga hn (by omega) (fun r j r0 r1 => by omega), h'.2.2.1.mf a4 (by omega) (by omega) (fun j => by omega), h'.2.2.2.1.ag ga hn (by omega) (fun r j r0 r1 => by omega), h'.2.2.2.2.1.ag ga hn (by omega) (by omega) (fun r j z => by omega), by rw [a4.gvE (by omega)]; exact h'.2.2.2.2.2.1, ⟨⟨by rw [a4.gvE (by omega)]; exact e1, by rw [a4.gvE (by omega)]; exact e2, e3⟩, e4.eq (a4.eqO (fun r j r0 r1 => by omega)), a3⟩, h'.2.2.2.2.2.2.2.1.ag hO ga hn (by omega) (by omega) (fun r j z => by omega) (fun r j z p => absurd p (by omega)), h'.2.2.2.2.2.2.2.2.mf a4 (by omega) (by omega) (fun j => by omega)⟩, ⟨_, ga, fun r j z => Or.inl (by omega)⟩, by rw [a4.ucE]; omega, by rw [a4.usE]; omega⟩
    · have y' : (reI S k).1 = false := by cases z : (reI S k).1 with
        | false => rfl
        | true => exact absurd z y
      rw [if_neg (fun z => y z.2), if_neg (fun z => y z.2)]
      rw [y'] at hI
      rw [p_rest0 (d := 49) h'.1.1.1 i1 k2 hI]
      exact XR.same hc
  · rw [if_neg (fun z => k2 z.1), if_neg (fun z => k2 z.1), p_restX (d := 49) k2]
    exact XR.same hc
end XT
