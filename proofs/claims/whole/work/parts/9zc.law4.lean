/-! ===== the law's start, and its whole run ===== -/
def S0 : St := (A0, 0, fun _ => A0, fun _ => -1, 0, (fun _ => 0, 0), (fun _ => 0, 0), (false, fN), (false, A0, false, fN), (false, A0, false, fN))
theorem w00_word (L : Nat) (xs : Nat → Int32) : WordI (w00 L xs) := by
  refine ⟨⟨rfl, rfl⟩, fun k k0 k1 => ?_⟩
  have hk : k = 0 ∨ k = 1 ∨ k = 2 ∨ k = 3 ∨ k = 4 ∨ k = 5 ∨ k = 6 ∨ k = 7 ∨ k = 8 ∨ k = 9 ∨ k = 10 ∨ k = 11 ∨ k = 12 ∨ k = 13 ∨ k = 14 ∨ k = 15 ∨ k = 16 ∨ k = 17 ∨ k = 18 ∨ k = 19 ∨ k = 20 ∨ k = 21 ∨ k = 22 := by omega
  rcases hk with z | z | z | z | z | z | z | z | z | z | z | z | z | z | z | z | z | z | z | z | z | z | z <;> subst z <;> exact ⟨rfl, rfl, rfl, rfl, rfl⟩
theorem w00_sc (L : Nat) (xs : Nat → Int32) : kd (w00 L xs) 25 = 20 ∧ ln (w00 L xs) 25 = (L : Int) ∧ ∀ j, in32 (gv (w00 L xs) 25 j) := by
  refine ⟨rfl, rfl, fun j => ?_⟩
  show in32 (xs j.toNat).toInt
  have h1 := (xs j.toNat).le_toInt
  have h2 := (xs j.toNat).toInt_lt
  unfold in32
  omega
theorem law0 (L : Nat) (hL : L ≤ 3072) (xs : Nat → Int32) : ∃ w, LwS w S0 L ∧ uc w ≤ 100 ∧ us w ≤ 100000 ∧ ∀ res, Rn (Ex pro 50) mL_law (23, lwL 0, [], w) res → Rn (Ex pro 50) mL_law (0, [some (rV 25), none, none, none, none, none, none], [], w00 L xs) res := by
  have nA : nx (w00 L xs) = 32 := rfl
  have e0 : EqO (w00 L xs) (al (w00 L xs) 9 0 15) 0 31 := EqO.al (by omega)
  have kA : kd (al (w00 L xs) 9 0 15) 32 = 9 := by rw [kdL, nA, if_pos rfl]
  have uA : uc (al (w00 L xs) 9 0 15) = 1 := by rw [ucL]; rfl
  have vA : us (al (w00 L xs) 9 0 15) = 15 := by rw [usL]; rfl
  obtain ⟨wB, b0, ⟨f9, f0, f1, f2, f3, f4, f5, f6, f7, f8, f9', f10, f11, f12, f13, f14⟩, ⟨t1, t2, t3⟩, k34, i36, i53, ⟨s70, s74, s75⟩, sh75, bo, ⟨⟨h1, h2, h3, h4⟩, ⟨h5, h6⟩, h7⟩, ⟨m1, m2, m3⟩, ⟨o1, o2, o3⟩, ⟨q1, q2⟩, ⟨d1, d2, d3⟩, nB, uB, vB, eB⟩ := b_init (d := 47) (w := al (w00 L xs) 9 0 15) kA (by rw [nxL, nA]; omega) (fun j => by rw [gvL, nA, if_pos rfl])
  have kC : kd (al wB 10 0 39) 91 = 10 := by rw [kdL, nB, if_pos rfl]
  have nC : nx (al wB 10 0 39) = 91 + 1 := by rw [nxL, nB]
  obtain ⟨wD, x, c0, c1, c2⟩ := m_init (d := 49) (w := al wB 10 0 39) (m := 91) (by omega) kC nC (fun j => by rw [gvL, nB, if_pos rfl])
  obtain ⟨g1, g2, g3', g4, g5, g6', g7'⟩ := c1
  have a1 : Ag wD (sv wD (91 + 2) 1 8) (fun r j => r = 93 ∧ j = 1) := (Ag.sv wD (91 + 2) 1 8).mono (fun r j _ _ z => by omega)
  have nD : nx (sv wD (91 + 2) 1 8) = 107 := by rw [nxS, g1]; omega
  have a2 := Ag.al (sv wD (91 + 2) 1 8) 22 1 (Int.toNat 1)
  have aE : Ag wD (al (sv wD (91 + 2) 1 8) 22 1 (Int.toNat 1)) (fun r j => r = 93 ∧ j = 1) := (a1.trans a2).mono (fun r j _ _ z => z.elim id False.elim)
  have x93 : gv (al (sv wD (91 + 2) 1 8) 22 1 (Int.toNat 1)) 93 1 = 8 := by rw [gvL, nD, if_neg (by omega)]; exact gvSS _ _ _ _
  have k107 : kd (al (sv wD (91 + 2) 1 8) 22 1 (Int.toNat 1)) 107 = 22 := by rw [kdL, nD, if_pos rfl]
  have l107 : ln (al (sv wD (91 + 2) 1 8) 22 1 (Int.toNat 1)) 107 = 1 := by rw [lnL, nD, if_pos rfl]
  have nE : nx (al (sv wD (91 + 2) 1 8) 22 1 (Int.toNat 1)) = 108 := by rw [nxL, nD]; omega
  have uE : uc (al (sv wD (91 + 2) 1 8) 22 1 (Int.toNat 1)) = uc wD + 1 := by rw [ucL, ucS]
  have vE : us (al (sv wD (91 + 2) 1 8) 22 1 (Int.toNat 1)) = us wD + Int.toNat 1 := by rw [usL, usS]
  have ran : ∀ res, Rn (Ex pro 50) mL_law (23, lwL 0, [], al (sv wD (91 + 2) 1 8) 22 1 (Int.toNat 1)) res → Rn (Ex pro 50) mL_law (0, [some (rV 25), none, none, none, none, none, none], [], w00 L xs) res := fun res r => by
    refine Rn.cut ?_ r
    rw [eL_law_0, wl_eq, nA, if_pos kA, b0]
    simp only [bN]
    rw [wl_eq, nB, if_pos kC, c0]
    simp only []
    rw [if_pos (by decide), wl_eq, nD]
  generalize al (sv wD (91 + 2) 1 8) 22 1 (Int.toNat 1) = w at aE x93 k107 l107 nE uE vE ran
  have eBC : EqO wB (al wB 10 0 39) 0 90 := EqO.al (by omega)
  have eDE : EqO wD w 0 90 := aE.eqO (by omega) (by omega) (fun r j r0 r1 => by omega)
  have e : EqO wB w 0 90 := (eBC.trans (g3'.mono (by omega) (by omega))).trans eDE
  have ew : EqO (w00 L xs) w 0 31 := (e0.trans eB).trans (e.mono (by omega) (by omega))
  have kk : ∀ r, 0 ≤ r → r ≤ 90 → kd w r = kd wB r := fun r r0 r1 => e.kdE r0 r1
  have ll : ∀ r, 0 ≤ r → r ≤ 90 → ln w r = ln wB r := fun r r0 r1 => e.lnE r0 r1
  have gg : ∀ r j, 0 ≤ r → r ≤ 90 → gv w r j = gv wB r j := fun r j r0 r1 => e.gvE r0 r1 j
  have ow0 : ∀ i, 0 ≤ i → i < 12 → ow w i = 0 := fun i i0 i1 => by
    unfold ow
    split
    · rw [gg _ _ (by omega) (by omega)]; exact h7 i
    · split
      · rw [gg _ _ (by omega) (by omega)]; exact m3 _
      · rw [gg _ _ (by omega) (by omega)]; exact o3 _
  have bo' : BoI w 0 bL0 := by
    obtain ⟨⟨y1, y2, y3, y4, y5⟩, ⟨y6, y7⟩, ⟨y8, y9⟩, ⟨y10, y11⟩, ⟨y12, y13⟩, y14, y15, y16⟩ := bo
    unfold BoI
    rw [kk 80 (by omega) (by omega), gg 80 0 (by omega) (by omega), gg 80 1 (by omega) (by omega), gg 80 2 (by omega) (by omega), gg 80 3 (by omega) (by omega), gg 80 4 (by omega) (by omega), kk 81 (by omega) (by omega), ll 81 (by omega) (by omega), kk 82 (by omega) (by omega), ll 82 (by omega) (by omega), kk 83 (by omega) (by omega), ll 83 (by omega) (by omega), kk 84 (by omega) (by omega), ll 84 (by omega) (by omega)]
    exact ⟨⟨y1, y2, y3, y4, y5⟩, ⟨y6, y7⟩, ⟨y8, y9⟩, ⟨y10, y11⟩, ⟨y12, y13⟩, y14, y15, fun i i0 i1 => by omega⟩
  have cl : CL w S0 := by
    refine ⟨36, 53, 70, 75, ⟨⟨by rw [kk 32 (by omega) (by omega)]; exact f9, by rw [gg 32 3 (by omega) (by omega)]; exact f3, i36.eq (e.mono (by omega) (by omega))⟩, Or.inl rfl, by rw [gg 32 8 (by omega) (by omega)]; exact f8, ⟨⟨by rw [kk 85 (by omega) (by omega)]; exact h1, by rw [gg 85 0 (by omega) (by omega)]; exact h2, by rw [kk 86 (by omega) (by omega)]; exact h3, by rw [ll 86 (by omega) (by omega)]; exact h4⟩, by rw [gg 85 2 (by omega) (by omega)]; exact h6, ⟨Int.le_refl _, by decide⟩, 0, by rw [gg 85 1 (by omega) (by omega)]; exact h5, by omega, fun i i0 i1 => by have i1' : i < 0 := i1; omega⟩, ⟨fun i i0 i1 => Or.inl (ow0 i i0 i1), fun i j i0 i1 j0 j1 ij => Or.inl (ow0 i i0 i1)⟩, ⟨fun i i0 i1 => Or.inl (ow0 i i0 (by omega)), fun i i0 i1 => Or.inl (ow0 i (by omega) i1)⟩, by omega⟩, ⟨by rw [gg 32 4 (by omega) (by omega)]; exact f4, i53.1.eq (e.mono (by omega) (by omega)), Or.inl ⟨rfl, rfl⟩⟩, ⟨⟨by rw [gg 32 0 (by omega) (by omega)]; exact f0, by rw [kk 33 (by omega) (by omega)]; exact t1, by rw [ll 33 (by omega) (by omega)]; exact t2, by omega, by omega, by omega⟩, by rw [gg 32 1 (by omega) (by omega)]; exact f1, ⟨Int.le_refl _, by decide⟩, fun i i0 i1 => ⟨by rw [gg 33 i (by omega) (by omega)]; exact t3 i, Int.le_refl _, by show (0 : Int) ≤ 255; omega⟩⟩, ⟨⟨by rw [gg 32 2 (by omega) (by omega)]; exact f2, by rw [kk 34 (by omega) (by omega)]; exact k34⟩, (w00_word L xs).eq (ew.mono (by omega) (by omega))⟩, ⟨⟨by rw [gg 32 7 (by omega) (by omega)]; exact f7, 0, bL0, bo'⟩, ⟨by rw [gg 32 14 (by omega) (by omega)]; exact f14, by rw [kk 90 (by omega) (by omega)]; exact d1, by rw [ll 90 (by omega) (by omega)]; exact d2⟩, fun i i0 i1 => by rw [gg 90 i (by omega) (by omega)]; exact d3 i i0 i1⟩, by rw [gg 32 13 (by omega) (by omega)]; exact f13, ⟨⟨by rw [gg 32 5 (by omega) (by omega)]; exact f5, by rw [gg 32 6 (by omega) (by omega)]; exact f6, Or.inl ⟨rfl, rfl⟩⟩, sh75.eq (e.mono (by omega) (by omega)), 0, [], ⟨s70.eq (e.mono (by omega) (by omega)), by rw [gg 70 4 (by omega) (by omega)]; exact s74, by simp, by rw [gg 70 5 (by omega) (by omega)]; exact s75, by omega, trivial⟩, fun _ => rfl, fun z => Bool.noConfusion z⟩, ⟨⟨⟨by rw [gg 32 9 (by omega) (by omega)]; exact f9', by rw [kk 87 (by omega) (by omega)]; exact m1, by rw [ll 87 (by omega) (by omega)]; exact m2⟩, by rw [gg 32 10 (by omega) (by omega)]; exact f10, by rw [kk 88 (by omega) (by omega)]; exact o1, by rw [ll 88 (by omega) (by omega)]; exact o2⟩, ⟨fun _ => ⟨by rw [gg 87 0 (by omega) (by omega)]; exact m3 0, by rw [gg 88 0 (by omega) (by omega)]; exact o3 0⟩, fun z => Bool.noConfusion z⟩, ⟨fun _ => ⟨by rw [gg 87 1 (by omega) (by omega)]; exact m3 1, by rw [gg 88 1 (by omega) (by omega)]; exact o3 1⟩, fun z => Bool.noConfusion z⟩⟩, ⟨⟨by rw [gg 32 11 (by omega) (by omega)]; exact f11, by rw [kk 89 (by omega) (by omega)]; exact q1, by rw [ll 89 (by omega) (by omega)]; exact q2, by omega, by omega, by omega⟩, by rw [gg 32 12 (by omega) (by omega)]; exact f12, ⟨Int.le_refl _, by decide⟩, fun i i0 i1 => by have i1' : i < 0 := i1; omega⟩⟩
  -- the reference
  have ar' : ∀ i, 1 ≤ i → i ≤ 15 → gv w 91 (fF i) = 91 + i ∧ kd w (91 + i) = fK i ∧ ln w (91 + i) = fL i ∧ ∀ j, ¬ (i = 2 ∧ j = 1) → gv w (91 + i) j = 0 := fun i i0 i1 => by
    obtain ⟨z1, z2, z3, z4⟩ := g4 i i0 i1
    exact ⟨by rw [aE.gvE (by omega) (by omega) (by omega)]; exact z1, by rw [aE.kdE (by omega) (by omega)]; exact z2, by rw [aE.lnE (by omega) (by omega)]; exact z3, fun j hj => by rw [aE.gvE (by omega) (by omega) (by omega)]; exact z4 j⟩
  have zf : ∀ j, (∀ i, 1 ≤ i → i ≤ 15 → j ≠ fF i) → gv w 91 j = 0 := fun j hj => by rw [aE.gvE (by omega) (by omega) (by omega)]; exact g5 j hj
  have nf : ∀ j, j = 0 ∨ (2 ≤ j ∧ j ≤ 13) ∨ (24 ≤ j ∧ j ≤ 26) ∨ j = 28 ∨ j = 29 ∨ j = 32 ∨ j = 33 ∨ (35 ≤ j ∧ j ≤ 38) → gv w 91 j = 0 := fun j hj => zf j (fun i i0 i1 => by
    unfold fF
    split
    · omega
    · split
      · omega
      · split
        · omega
        · split
          · omega
          · split <;> omega)
  have k91 : kd w 91 = 10 := by rw [aE.kdE (by omega) (by omega)]; exact g2
  have arm : ∀ i, 1 ≤ i → i ≤ 15 → ARm w 91 (fF i) i (fK i) (fL i) := fun i i0 i1 => ⟨(ar' i i0 i1).1, (ar' i i0 i1).2.1, (ar' i i0 i1).2.2.1⟩
  have M : MSh w 91 := ⟨⟨k91, by omega⟩, arm 1 (by omega) (by omega), arm 2 (by omega) (by omega), arm 3 (by omega) (by omega), arm 4 (by omega) (by omega), arm 5 (by omega) (by omega), arm 6 (by omega) (by omega), arm 7 (by omega) (by omega), arm 8 (by omega) (by omega), arm 9 (by omega) (by omega), arm 10 (by omega) (by omega), arm 11 (by omega) (by omega), arm 12 (by omega) (by omega), arm 13 (by omega) (by omega), arm 14 (by omega) (by omega), arm 15 (by omega) (by omega)⟩
  have X : ∀ j, j ≠ 1 → gv w (91 + 2) j = 0 := fun j hj => (ar' 2 (by omega) (by omega)).2.2.2 j (fun z => hj z.2)
  have X1 : gv w (91 + 2) 1 = 8 := x93
  have ml : ML w 91 S0 := by
    refine ⟨M, ⟨M.now, X 0 (by omega), X1, ⟨Int.le_refl _, by decide⟩, ⟨by decide, by decide⟩, fun r r0 r1 => by have r1' : r < 0 := r1; omega, X 2615 (by omega), ⟨Int.le_refl _, by decide⟩, fun r r0 r1 => by have r1' : r < 0 := r1; omega⟩, ⟨M, X 0 (by omega), ⟨Int.le_refl _, by decide⟩, fun r r0 r1 => by have r1' : r < 0 := r1; omega⟩, ⟨nf 24 (by omega), ⟨Int.le_refl _, by decide⟩, fun r r0 r1 => by have r1' : r < 0 := r1; omega⟩, fun r r0 r1 => by have r1' : r < 0 := r1; omega, ⟨⟨M.2.1.1, M.2.1.2.1, M.2.1.2.2, by omega, by omega, by omega⟩, nf 2 (by omega), ⟨Int.le_refl _, by decide⟩, fun i i0 i1 => ⟨(ar' 1 (by omega) (by omega)).2.2.2 i (by omega), Int.le_refl _, by show (0 : Int) ≤ 255; omega⟩⟩, Or.inl ⟨nf 33 (by omega), fun i i0 i1 => rfl⟩, nf 10 (by omega), ⟨fun _ => X 5820 (by omega), fun z => Bool.noConfusion z⟩, ⟨fun _ => (ar' 11 (by omega) (by omega)).2.2.2 0 (by omega), fun z => Bool.noConfusion z⟩, ⟨fun _ => (ar' 11 (by omega) (by omega)).2.2.2 1 (by omega), fun z => Bool.noConfusion z⟩, ⟨⟨(arm 12 (by omega) (by omega)).1, (arm 12 (by omega) (by omega)).2.1, (arm 12 (by omega) (by omega)).2.2, by omega, by omega, by omega⟩, nf 28 (by omega), ⟨Int.le_refl _, by decide⟩, fun r r0 r1 => by have r1' : r < 0 := r1; omega⟩⟩
  have uC : uc (al wB 10 0 39) = uc wB + 1 := ucL _ _ _ _
  have vC : us (al wB 10 0 39) = us wB + 39 := usL _ _ _ _
  have sc := w00_sc L xs
  refine ⟨w, ⟨cl, ml, ⟨by rw [ew.kdE (by omega) (by omega)]; exact sc.1, by rw [ew.lnE (by omega) (by omega)]; exact sc.2.1, fun j => by rw [ew.gvE (by omega) (by omega)]; exact sc.2.2 j⟩, k107, l107⟩, by omega, by rw [vE, g7', vC]; omega, ran⟩
theorem law_run (L : Nat) (hL : L ≤ 3072) (xs : Nat → Int32) : ∃ wF, runs (Ex pro 50) mL_law (w00 L xs) [rV 25] = some (some (iV 1), wF) ∧ uc wF ≤ 601024 ∧ us wF ≤ 7293034 := by
  obtain ⟨w, a1, a2, a3, a4⟩ := law0 L hL xs
  obtain ⟨wF, b1, b2, b3⟩ := l_law (L := L) (by omega) (by omega) 513 0 w S0 (by omega) (by omega) (by omega) a1
  refine ⟨wF, runs_iff.mpr ⟨by decide, a4 _ b1⟩, by omega, by omega⟩
