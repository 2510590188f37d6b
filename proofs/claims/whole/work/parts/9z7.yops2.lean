/-! ===== the reference's calls on the whole state: texts, images ===== -/
section YT
variable {w w' : sW} {P : Int → Int → Prop} {m : Int} {S : St}
theorem y_seek (h : ML w m S) (r : Int) : YR w m (Ex pro 50 220 w [rV m, iV r]) (if skV (sA S) (st S) (sn S) r then (skF (bA (sA S) r) (st S) (sn S) (skN (sA S) r (sn S)) 0 (sQ S) 0).2 else -1) (sA S, sK S, sH S, sT S, sF S, (st S, 0), (if skV (sA S) (st S) (sn S) r then (skF (bA (sA S) r) (st S) (sn S) (skN (sA S) r (sn S)) 0 (sQ S) 0).1 else sQ S, if skV (sA S) (st S) (sn S) r then (skF (bA (sA S) r) (st S) (sn S) (skN (sA S) r (sn S)) 0 (sQ S) 0).2 else sq S), sZ S, sIm S, sJm S) := by
  obtain ⟨h1, h2, h3, h4, h5, h6, h7, h8, h9, h10, h11, h12⟩ := h
  obtain ⟨w', a1, a2, a3, a4⟩ := q_seek (d := 47) h2 h6 h12 r
  exact YR.of a1 ⟨h1.mf a4 (fun j z => by omega), h2.mf a4 (by omega) (fun j z => by omega), h3.mf a4 (fun j z => by omega) (by omega) (fun j => by omega), h4.mf a4 (by omega) (fun j => by omega), h5, a2, h7.mf a4 (by omega) (fun j => by omega), by rw [a4.gvE (by omega)]; exact h8, h9.cg (fun x x0 x1 => a4.gvE (by omega)), h10.mf a4 (by omega) (fun x x0 x1 => by omega) (fun r r0 r1 => by omega), h11.mf a4 (by omega) (fun x x0 x1 => by omega) (fun r r0 r1 => by omega), a3⟩ a4 (fun r j z => by omega)
theorem y_room (h : ML w m S) : YR w m (Ex pro 50 178 w [rV m]) (rmY S) (rmS S) := by
  have h' := h
  obtain ⟨h1, h2, h3, h4, h5, h6, h7, h8, h9, h10, h11, h12⟩ := h
  unfold rmY rmS
  by_cases e : (rmF (st S) (sn S) 900 940 0 0 0 E0).1 = 0
  · rw [if_pos e, if_pos e]
    obtain ⟨w', a1, a2, a3, a4, a5, a6, a7, a8, a9⟩ := q_roomY (d := 44) h1 h6 e
    exact YR.of a1 ⟨a2, a3, ⟨a2, a3.2.1, a3.2.2.2.1, a4⟩, ⟨a7, ⟨by show (0 : Int) ≤ 0; omega, by show (0 : Int) ≤ 8; omega⟩, fun j j0 j1 => by have j1' : j < 0 := j1; omega⟩, fun j j0 j1 => by have j1' : j < 0 := j1; omega, a5, h7.mf a9 (by omega) (fun j => by omega), a6, ⟨fun _ => a8 5820 (by omega) (by omega), fun z => Bool.noConfusion z⟩, h10.mf a9 (by omega) (fun x x0 x1 => by omega) (fun r r0 r1 => by omega), h11.mf a9 (by omega) (fun x x0 x1 => by omega) (fun r r0 r1 => by omega), h12.mf a9 (by omega) (by omega) (fun j => by omega)⟩ a9 (fun r j z => by omega)
  · rw [if_neg e, if_neg e]
    obtain ⟨w', a1, a2, a3, a4, a5⟩ := q_roomN (d := 44) h1 h6 e
    exact YR.of a1 (h'.gen a5 (fun r j z => by omega) (h2.mf a5 (by omega) (fun j z => by omega)) (h4.mf a5 (by omega) (fun j => by omega)) h5 a3 (h7.mf a5 (by omega) (fun j => by omega)) a4 rfl rfl) a5 (fun r j z => by omega)
theorem y_book (h : ML w m S) (a1 : Int) : YR w m (Ex pro 50 260 w [rV m, iV a1]) (bkYt S a1) (bkSt S a1) := by
  have h' := h
  obtain ⟨h1, h2, h3, h4, h5, h6, h7, h8, h9, h10, h11, h12⟩ := h
  unfold bkYt bkSt
  by_cases ha : a1 = 0 ∨ a1 = 1
  · rw [if_pos ha, if_pos ha]
    by_cases e : (bkFa (st S) (sn S) (sA S)).1 = 0
    · rw [if_pos e, if_pos e]
      obtain ⟨w', b1, b2, b3, b4, b5, b6, b7⟩ := q_bookY (d := 42) h1 h2 h3 h4 h6 ha e
      have k := bkDa_k (st S) (sn S) (sA S)
      refine YR.of b1 (h'.gen b7 (fun r j z => by omega) b2 b3 ?_ b4 b5 b6 ?_ ?_) b7 (fun r j z => by omega)
      · split
        · exact (h5.push h4.2.1).cg k
        · exact h5
      · split
        · exact k.1
        · rfl
      · split
        · exact k.2.2
        · rfl
    · rw [if_neg e, if_neg e]
      obtain ⟨w', b1, b2, b3, b4, b5, b6, b7⟩ := q_bookN (d := 42) h1 h2 h3 h4 h6 h7 ha e
      exact YR.of b1 (h'.gen b7 (fun r j z => by omega) b2 b3 h5 b4 b5 b6 rfl rfl) b7 (fun r j z => by omega)
  · rw [if_neg ha, if_neg ha, q_bookX (d := 48) h1.1.1 ha]
    exact YR.same0 h'
theorem y_sentence (h : ML w m S) : YR w m (Ex pro 50 273 w [rV m]) (seYt S) (seSt S) := by
  have h' := h
  obtain ⟨h1, h2, h3, h4, h5, h6, h7, h8, h9, h10, h11, h12⟩ := h
  unfold seYt seSt
  by_cases e : (seF (st S) (sn S) 200 (sA S)).1.1 = 0
  · rw [if_pos e, if_pos e]
    obtain ⟨w', a1, a2, a3, a4, a5⟩ := q_senY (d := 6) h1 h3 h6 e
    exact YR.of a1 ⟨h1.mf a5 (fun j z => by omega), h2.mf a5 (by omega) (fun j z => by omega), h3.mf a5 (fun j z => by omega) (by omega) (fun j => by omega), h4.mf a5 (by omega) (fun j => by omega), h5, a2, h7.mf a5 (by omega) (fun j => by omega), a3, a4, h10.mf a5 (by omega) (fun x x0 x1 => by omega) (fun r r0 r1 => by omega), h11.mf a5 (by omega) (fun x x0 x1 => by omega) (fun r r0 r1 => by omega), h12.mf a5 (by omega) (by omega) (fun j => by omega)⟩ a5 (fun r j z => by omega)
  · rw [if_neg e, if_neg e]
    obtain ⟨w', a1, a2, a3, a4⟩ := q_senN (d := 6) h1 h3 h6 e
    exact YR.of a1 ⟨h1.mf a4 (fun j z => by omega), h2.mf a4 (by omega) (fun j z => by omega), h3.mf a4 (fun j z => by omega) (by omega) (fun j => by omega), h4.mf a4 (by omega) (fun j => by omega), h5, a2, h7.mf a4 (by omega) (fun j => by omega), a3, h9.cg (fun x x0 x1 => a4.gvE (by omega)), h10.mf a4 (by omega) (fun x x0 x1 => by omega) (fun r r0 r1 => by omega), h11.mf a4 (by omega) (fun x x0 x1 => by omega) (fun r r0 r1 => by omega), h12.mf a4 (by omega) (by omega) (fun j => by omega)⟩ a4 (fun r j z => by omega)
theorem y_said (h : ML w m S) (k : Int) : YR w m (Ex pro 50 275 w [rV m, iV k]) (saidF (sA S) (sZ S).1 (sZ S).2 k) S := by
  rw [q_said (d := 4) h.2.1 h.2.2.2.2.2.2.2.2.1 k]
  exact YR.same0 h
theorem y_image (h : ML w m S) (k : Int) : YR w m (Ex pro 50 276 w [rV m, iV k]) (if 0 ≤ k ∧ k < 2 then 1 else 0) (imSt S k) := by
  have h' := h
  obtain ⟨h1, h2, h3, h4, h5, h6, h7, h8, h9, h10, h11, h12⟩ := h
  unfold imSt
  by_cases k2 : 0 ≤ k ∧ k < 2
  · rw [if_pos k2, if_pos k2]
    obtain ⟨w', a1, a2, a3⟩ := q_image (d := 48) h1 h2 h3 h9 k2
    have i0 : ImM w' m 0 (if k = 0 then (true, sA S, (sZ S).1, (sZ S).2) else sIm S).1 (if k = 0 then (true, sA S, (sZ S).1, (sZ S).2) else sIm S).2.1 (if k = 0 then (true, sA S, (sZ S).1, (sZ S).2) else sIm S).2.2.1 (if k = 0 then (true, sA S, (sZ S).1, (sZ S).2) else sIm S).2.2.2 := by
      by_cases k0 : k = 0
      · rw [if_pos k0]
        rw [k0] at a2
        exact a2
      · rw [if_neg k0]
        exact h10.mf a3 (by omega) (fun x x0 x1 => by omega) (fun r r0 r1 => by omega)
    have i1 : ImM w' m 1 (if k = 0 then sJm S else (true, sA S, (sZ S).1, (sZ S).2)).1 (if k = 0 then sJm S else (true, sA S, (sZ S).1, (sZ S).2)).2.1 (if k = 0 then sJm S else (true, sA S, (sZ S).1, (sZ S).2)).2.2.1 (if k = 0 then sJm S else (true, sA S, (sZ S).1, (sZ S).2)).2.2.2 := by
      by_cases k0 : k = 0
      · rw [if_pos k0]
        exact h11.mf a3 (by omega) (fun x x0 x1 => by omega) (fun r r0 r1 => by omega)
      · rw [if_neg k0]
        rw [show k = 1 by omega] at a2
        exact a2
    exact YR.of a1 ⟨h1.mf a3 (fun j z => by omega), h2.mf a3 (by omega) (fun j z => by omega), h3.mf a3 (fun j z => by omega) (by omega) (fun j => by omega), h4.mf a3 (by omega) (fun j => by omega), h5, h6.mf a3 (by omega) (by omega) (fun j => by omega), h7.mf a3 (by omega) (fun j => by omega), by rw [a3.gvE (by omega)]; exact h8, h9.cg (fun x x0 x1 => a3.gvE (by omega)), i0, i1, h12.mf a3 (by omega) (by omega) (fun j => by omega)⟩ a3 (fun r j z => by omega)
  · rw [if_neg k2, if_neg k2, q_imageX (d := 48) h1.1.1 k2]
    exact YR.same0 h'
theorem y_restore (h : ML w m S) (k : Int) : YR w m (Ex pro 50 277 w [rV m, iV k]) (if (0 ≤ k ∧ k < 2) ∧ (reI S k).1 = true then 1 else 0) (reSt S k) := by
  have h' := h
  obtain ⟨h1, h2, h3, h4, h5, h6, h7, h8, h9, h10, h11, h12⟩ := h
  unfold reSt
  by_cases k2 : 0 ≤ k ∧ k < 2
  · have hI : ImM w m k (reI S k).1 (reI S k).2.1 (reI S k).2.2.1 (reI S k).2.2.2 := by
      unfold reI
      by_cases k0 : k = 0
      · subst k0
        rw [if_pos rfl]; exact h10
      · have k1 : k = 1 := by omega
        subst k1
        rw [if_neg k0]; exact h11
    by_cases y : (reI S k).1 = true
    · rw [if_pos ⟨k2, y⟩, if_pos ⟨k2, y⟩]
      rw [y] at hI
      obtain ⟨w', a1, a2, a3, a4, a5, a6, a7⟩ := q_rest1 (d := 48) h1 k2 hI (sH S)
      exact YR.of a1 ⟨a2, a3, a4, a6, fun j j0 j1 => by have j1' : j < 0 := j1; omega, h6.mf a7 (by omega) (by omega) (fun j => by omega), h7.mf a7 (by omega) (fun j => by omega), by rw [a7.gvE (by omega)]; exact h8, a5, h10.mf a7 (by omega) (fun x x0 x1 => by omega) (fun r r0 r1 => by omega), h11.mf a7 (by omega) (fun x x0 x1 => by omega) (fun r r0 r1 => by omega), h12.mf a7 (by omega) (by omega) (fun j => by omega)⟩ a7 (fun r j z => by omega)
    · have y' : (reI S k).1 = false := by cases z : (reI S k).1 with
        | false => rfl
        | true => exact absurd z y
      rw [if_neg (fun z => y z.2), if_neg (fun z => y z.2)]
      rw [y'] at hI
      rw [q_rest0 (d := 48) h1 k2 hI]
      exact YR.same0 h'
  · rw [if_neg (fun z => k2 z.1), if_neg (fun z => k2 z.1), q_restX (d := 48) h1.1.1 k2]
    exact YR.same0 h'
end YT
