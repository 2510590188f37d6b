/-! ===== the reference's room, whole ===== -/
abbrev rmQ (m r j : Int) : Prop := (r = m ∧ (j = 0 ∨ (2 ≤ j ∧ j ≤ 13) ∨ j = 25)) ∨ r = m + 3 ∨ r = m + 9
section MQ2
variable {d : Nat} {w : sW} {m : Int} {t : Int → Int} {n : Int}
theorem MSh.now (h : MSh w m) : NwSh w m := ⟨h.1.1, h.2.2.1.1, h.2.2.1.2.1, h.2.2.1.2.2, h.1.2⟩
theorem MRd.tx {A : Rm} (h : MRd w m A) : TX (gv w (m + 3)) A := ⟨h.1, h.2.1, h.2.2.1, h.2.2.2.1, h.2.2.2.2.2.1, h.2.2.2.2.2.2.1, h.2.2.2.2.2.2.2.1⟩
/-- the reading of a room, up to its end -/
theorem o_roomR (h : MSh w m) (hT : TpI w m 1 2 (m + 1) t n) : ∃ w', MSh w' m ∧ Mf w w' (rmQ m) ∧ TpI w' m 1 2 (m + 1) t 0 ∧ ((rmF t n 900 940 0 0 0 E0).1 ≠ 0 → Rn (Ex pro (d + 5)) mX12_room (0, [some (rV m), none, none], [], w) (some (iV (w32 (-1 - (rmF t n 900 940 0 0 0 E0).2.1))), w') ∧ gv w' m 10 = (rmF t n 900 940 0 0 0 E0).1) ∧ ((rmF t n 900 940 0 0 0 E0).1 = 0 → (∀ res, Rn (Ex pro (d + 5)) mX12_room (81, [some (rV m), some (iV (rmF t n 900 940 0 0 0 E0).2.2.1), some (iV 0)], [], w') res → Rn (Ex pro (d + 5)) mX12_room (0, [some (rV m), none, none], [], w) res) ∧ MRd w' m (rmF t n 900 940 0 0 0 E0).2.2.2 ∧ gv w' m 10 = 0) := by
  obtain ⟨w1, a1, a2, a3, a4, a5⟩ := o_begin (d := d + 2) (most := 900) h.1.1 hT (by omega)
  have M1 := h.mf a5 (fun j z => by omega)
  obtain ⟨X, b1, b2, b3⟩ := l_rm9 (d := d + 5) M1 2607 0 (gv w1 (m + 3)) (by omega) (by omega)
  rw [sa_self] at b1
  have m2 : Mf w1 (sv (sv (sa w1 (m + 3) X) (m + 3) 1 8) m 25 0) (fun r j => r = m + 3 ∨ (r = m ∧ j = 25)) := ((Mf.saI w1 (m + 3) X).trans ((Mf.svI _ (m + 3) 1 8).trans (Mf.svI _ m 25 0))).mono (fun r j z => by omega)
  have Y : ∀ x, 0 ≤ x → x < 2607 → gv (sv (sv (sa w1 (m + 3) X) (m + 3) 1 8) m 25 0) (m + 3) x = if x = 1 then 8 else 0 := fun x x0 x1 => by
    rw [gvS, if_neg (by omega), gvS]
    by_cases z : x = 1
    · rw [if_pos ⟨rfl, z⟩, if_pos z]
    · rw [if_neg (fun y => z y.2), if_neg z, gvA, if_pos rfl]
      exact b2 x x0 x1
  have y25 : gv (sv (sv (sa w1 (m + 3) X) (m + 3) 1 8) m 25 0) m 25 = 0 := gvSS _ _ _ _
  generalize hw2 : sv (sv (sa w1 (m + 3) X) (m + 3) 1 8) m 25 0 = w2 at b1 m2 Y y25
  have M2 := M1.mf m2 (fun j z => by omega)
  have D2 := a2.mf m2 (fun j z => by omega) (fun j => by omega)
  have R2 : MRd w2 m E0 := by
    refine ⟨⟨by rw [Y 0 (by omega) (by omega)]; rfl, by rw [Y 1 (by omega) (by omega)]; rfl⟩, ⟨by show (0 : Int) ≤ 0; omega, by show (0 : Int) ≤ 4; omega⟩, ⟨by show (4 : Int) ≤ 8; omega, by show (8 : Int) ≤ 32; omega⟩, fun r r0 r1 => by change r < 0 at r1; omega, fun r r0 r1 => ?_, by rw [Y 6 (by omega) (by omega)]; rfl, ⟨by show (0 : Int) ≤ 0; omega, by show (0 : Int) ≤ 200; omega⟩, fun r r0 r1 => by change r < 0 at r1; omega, fun r r0 r1 => by change r < 0 at r1; omega⟩
    change 0 ≤ r at r0
    rw [Y _ (by omega) (by omega), if_neg (by omega)]
  have n0 := hT.2.2.1
  obtain ⟨w3, c1, c2, c3, c4⟩ := l_mroom (d := d) (t := t) (n := n) (most := 900) 940 0 0 0 w2 E0 (by omega) (by omega) n0.1 (by omega) M2 D2 R2 (fun _ => rfl) y25 (Or.inl rfl)
  have st : ∀ res, Rn (Ex pro (d + 5)) mX12_room (44, [some (rV m), some (iV 0), none], [], w2) res → Rn (Ex pro (d + 5)) mX12_room (0, [some (rV m), none, none], [], w) res := fun res g => by
    refine Rn.cut ?_ (b1 res g)
    rw [eX12_room_0, if_pos h.1.1, a1]
    simp only [bN]
  refine ⟨w3, c1, (a5.trans (m2.trans c2)).mono (fun r j z => by omega), (a4.mf m2 (by omega) (by omega) (fun j => by omega)).mf c2 (by omega) (by omega) (fun j => by omega), fun z => ⟨st _ (c3 z).1, (c3 z).2.1⟩, fun z => ⟨fun res g => st _ ((c4 z).1 res g), (c4 z).2.1, by rw [(c4 z).2.2, m2.gvE (by omega)]; exact a3⟩⟩
theorem q_roomN (h : MSh w m) (hT : TpI w m 1 2 (m + 1) t n) (e : (rmF t n 900 940 0 0 0 E0).1 ≠ 0) : ∃ w', Ex pro (d + 6) 178 w [rV m] = some (some (iV (w32 (-1 - (rmF t n 900 940 0 0 0 E0).2.1))), w') ∧ MSh w' m ∧ TpI w' m 1 2 (m + 1) t 0 ∧ gv w' m 10 = (rmF t n 900 940 0 0 0 E0).1 ∧ Mf w w' (rmQ m) := by
  obtain ⟨w', a1, a2, a3, a4, a5⟩ := o_roomR (d := d) h hT
  exact ⟨w', xX12_room (a4 e).1, a1, a3, (a4 e).2, a2⟩
theorem q_roomY (h : MSh w m) (hT : TpI w m 1 2 (m + 1) t n) (e : (rmF t n 900 940 0 0 0 E0).1 = 0) : ∃ w', Ex pro (d + 6) 178 w [rV m] = some (some (iV (rmF t n 900 940 0 0 0 E0).2.2.1), w') ∧ MSh w' m ∧ MoI w' m (rmF t n 900 940 0 0 0 E0).2.2.2 ∧ (∀ r, 0 ≤ r → r < (rmF t n 900 940 0 0 0 E0).2.2.2.1 → nmR ((rmF t n 900 940 0 0 0 E0).2.2.2.2.2.1 r) (gv w' (m + 8) r)) ∧ TpI w' m 1 2 (m + 1) t 0 ∧ gv w' m 10 = 0 ∧ gv w' m 24 = 0 ∧ (∀ x, 5820 ≤ x → x < 6062 → gv w' (m + 2) x = 0) ∧ Mf w w' (fun r j => rmQ m r j ∨ r = m + 2 ∨ r = m + 8 ∨ (r = m ∧ j = 24)) := by
  obtain ⟨w3, a1, a2, a3, a4, a5⟩ := o_roomR (d := d) h hT
  obtain ⟨b1, b2, b3⟩ := a5 e
  obtain ⟨Y, c1, c2, c3⟩ := l_rm81 (d := d + 5) (many := (rmF t n 900 940 0 0 0 E0).2.2.1) a1 2607 0 (gv w3 (m + 2)) (by omega) (by omega)
  rw [sa_self] at c1
  have m4 := Mf.saI w3 (m + 2) Y
  obtain ⟨w5, e1, e2, e3, e4, e5⟩ := l_rm108 (d := d + 5) (m := m) (many := (rmF t n 900 940 0 0 0 E0).2.2.1) 4 0 (sa w3 (m + 2) Y) (a1.mf m4 (fun j z => by omega)) (by omega) (by omega)
  have T5 : TX (gv w5 (m + 2)) (rmF t n 900 940 0 0 0 E0).2.2.2 := b2.tx.cg (fun x x0 x1 => by
    rw [e5.gvE (by omega), gvA, if_pos rfl]
    exact c2 x x0 x1)
  obtain ⟨Z, f1, f2, f3, f4⟩ := o_startSo (d := d + 1) e2.now T5
  rw [sa_self] at f1
  have m6 := Mf.saI w5 (m + 2) Z
  have m7 := Mf.svI (sa w5 (m + 2) Z) m 24 0
  have m67 : Mf w5 (sv (sa w5 (m + 2) Z) m 24 0) (fun r j => r = m + 2 ∨ (r = m ∧ j = 24)) := (m6.trans m7).mono (fun r j z => by omega)
  have m37 : Mf w3 (sv (sa w5 (m + 2) Z) m 24 0) (fun r j => r = m + 2 ∨ r = m + 8 ∨ (r = m ∧ j = 24)) := (m4.trans (e5.trans m67)).mono (fun r j z => by omega)
  have M7 := a1.mf m37 (fun j z => by omega)
  have Z7 : gv (sv (sa w5 (m + 2) Z) m 24 0) (m + 2) = Z := funext fun x => by rw [gvS, if_neg (by omega), gvA, if_pos rfl]
  refine ⟨_, xX12_room (b1 _ (c1 _ (e1 _ (Rn.ret ?_)))), M7, ⟨M7.now, by rw [Z7]; exact f2⟩, fun r r0 r1 => ?_, a3.mf m37 (by omega) (by omega) (fun j => by omega), by rw [m37.gvE (by omega)]; exact b3, gvSS _ _ _ _, fun x x0 x1 => by rw [Z7]; exact f4 x x0 x1, (a2.trans m37).mono (fun r j z => by omega)⟩
  · rw [eX12_room_108, if_neg (by omega), if_pos e2.1.1, f1]
    simp only [bN]
    rw [if_pos (show kd (sa w5 (m + 2) Z) m = 10 from e2.1.1), wl_eq]
  · have hA := b2.2.1
    rw [m67.gvE (by omega), e3 r r0 (by omega), m4.gvE (by omega)]
    exact b2.2.2.2.2.2.2.2.2 r r0 r1
end MQ2
