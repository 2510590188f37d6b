/-! ===== the reference's book ===== -/
/-- the lines of a book, as the reference keeps them -/
def LiM (w : sW) (m c : Int) (L : Int → Ln) : Prop := gv w m 32 = c ∧ (0 ≤ c ∧ c ≤ 40) ∧ ∀ i, 0 ≤ i → i < c → gv w (m + 13) (4 * i) = (L i).1 - 4 ∧ gv w (m + 13) (4 * i + 1) = lnR (L i) ∧ gv w (m + 13) (4 * i + 2) = lnI (L i) ∧ gv w (m + 13) (4 * i + 3) = lnN (L i)
theorem LiM.mf {w w' : sW} {m c : Int} {L : Int → Ln} {P : Int → Int → Prop} (h : LiM w m c L) (g : Mf w w' P) (h1 : ¬ P m 32) (h2 : ∀ j, j < 4 * c → ¬ P (m + 13) j) : LiM w' m c L := by
  obtain ⟨a1, a2, a3⟩ := h
  refine ⟨by rw [g.gvE h1]; exact a1, a2, fun i i0 i1 => ?_⟩
  rw [g.gvE (h2 _ (by omega)), g.gvE (h2 _ (by omega)), g.gvE (h2 _ (by omega)), g.gvE (h2 _ (by omega))]
  exact a3 i i0 i1
abbrev bkMP (m r j : Int) : Prop := rdMm m r j ∨ r = m + 13 ∨ (r = m ∧ j = 32)
section MBk
variable {d : Nat} {w : sW} {m : Int} {t : Int → Int} {n most : Int} {A : Rm} {a1 : Int}
theorem l_mblines : ∀ (f : Nat) (p c : Int) (w : sW) (L : Int → Ln), c + f = 41 → 0 ≤ p → NmM w m A → RdM w m t n most p → gv w m 10 = 0 → LiM w m c L → ∃ w', ((bkF t n most A f p c L).1 ≠ 0 → Rn (Ex pro (d + 5)) mX12_book (30, [some (rV m), some (iV a1), none, none], [], w) (some (iV (w32 (-2 - (bkF t n most A f p c L).2.1))), w') ∧ FlM w' m (bkF t n most A f p c L).1 (bkF t n most A f p c L).2.1) ∧ ((bkF t n most A f p c L).1 = 0 → (∀ res, Rn (Ex pro (d + 5)) mX12_book (30, [some (rV m), some (iV a1), none, none], [], w') res → Rn (Ex pro (d + 5)) mX12_book (30, [some (rV m), some (iV a1), none, none], [], w) res) ∧ gv w' m 7 = 0 ∧ gv w' m 10 = 0 ∧ LiM w' m (bkF t n most A f p c L).2.2.1 (bkF t n most A f p c L).2.2.2) ∧ Mf w w' (bkMP m)
  | 0, p, c, w, L, hf, h0, hN, hR, h10, hL => by
    have := hL.2.1
    omega
  | f + 1, p, c, w, L, hf, h0, hN, hR, h10, hL => by
    have k := hN.1.1.1
    have cc := hL.2.1
    unfold bkF
    by_cases k0 : tkK t n most p = 0
    · rw [if_pos k0]
      exact ⟨w, fun z => absurd rfl z, fun _ => ⟨fun res r => r, by rw [hR.2.1]; exact k0, h10, hL⟩, Mf.refl _ _⟩
    · rw [if_neg k0]
      have k7 : ¬ gv w m 7 = 0 := by rw [hR.2.1]; exact k0
      by_cases kw : 4 ≤ tkW t n most p ∧ tkW t n most p ≤ 11
      · rw [if_pos kw]
        by_cases c40 : c < 40
        · rw [if_pos c40]
          obtain ⟨w1, x1, x2, x3, x4⟩ := o_blineY (d := d) hN hR h10 h0 kw (c := c) ⟨cc.1, c40⟩ hL.1
          have k1 : kd w1 m = 10 := by rw [x4.kdE]; exact k
          by_cases z : (bkS t n most A p).1 = 0
          · rw [if_pos z]
            obtain ⟨y1, y2, y3, y4⟩ := x2.1 z
            obtain ⟨u1, u2, u3, u4⟩ := x3 z
            have m1 := Mf.svI w1 m 32 (c + 1)
            have m01 : Mf w (sv w1 m 32 (c + 1)) (fun r j => rdMm m r j ∨ (r = m + 13 ∧ 4 * c ≤ j ∧ j ≤ 4 * c + 3) ∨ (r = m ∧ j = 32)) := (x4.trans m1).mono (fun r j z => by omega)
            have L1 : LiM (sv w1 m 32 (c + 1)) m (c + 1) (addL L c (tkW t n most p, (bkL t n most A (0, 0, tkT t n most p) (tkW t n most p)).2)) := by
              refine ⟨gvSS _ _ _ _, by omega, fun i i0 i1 => ?_⟩
              unfold addL
              by_cases ic : i = c
              · rw [if_pos ic, ic, m1.gvE (by omega), m1.gvE (by omega), m1.gvE (by omega), m1.gvE (by omega)]
                exact ⟨u1, u2, u3, u4⟩
              · rw [if_neg ic, m01.gvE (by omega), m01.gvE (by omega), m01.gvE (by omega), m01.gvE (by omega)]
                exact hL.2.2 i i0 (by omega)
            have R1 := y1.mf m1 (fun j hj => by omega) (fun j => by omega)
            obtain ⟨w', g1, g2, g3⟩ := l_mblines f (bkS t n most A p).2.2 (c + 1) (sv w1 m 32 (c + 1)) _ (by omega) y3 (hN.mf m01 (fun j z => by omega) (by omega) (fun j => by omega)) R1 (by rw [m1.gvE (by omega)]; exact y4) L1
            have st : ∀ res, Rn (Ex pro (d + 5)) mX12_book (30, [some (rV m), some (iV a1), none, none], [], sv w1 m 32 (c + 1)) res → Rn (Ex pro (d + 5)) mX12_book (30, [some (rV m), some (iV a1), none, none], [], w) res := fun res r => by
              refine Rn.cut ?_ r
              rw [eX12_book_30, if_pos k, if_neg k7, if_pos k, x1]
              simp only [bI]
              rw [okR1 z, if_neg (by omega), if_pos k1, if_pos k1, show gv w1 m 32 = c by rw [x4.gvE (by omega)]; exact hL.1, w32_eq (by omega) (by omega), wl_eq]
            exact ⟨w', fun e => ⟨st _ (g1 e).1, (g1 e).2⟩, fun e => ⟨fun res r => st _ ((g2 e).1 res r), (g2 e).2⟩, (m01.trans g3).mono (fun r j z => by omega)⟩
          · rw [if_neg z]
            have fl := x2.2 z
            refine ⟨w1, fun _ => ⟨Rn.ret ?_, fl⟩, fun e => absurd e z, x4.mono (fun r j z => by omega)⟩
            rw [eX12_book_30, if_pos k, if_neg k7, if_pos k, x1]
            simp only [bI]
            rw [okR0 z, if_pos (by simp), if_pos k1, fl.2]
        · rw [if_neg c40]
          obtain ⟨w1, x1, x2, x3⟩ := o_bline4 (d := d) (c := c) hN.1 hR kw (by rw [hL.1]; omega)
          have k1 : kd w1 m = 10 := by rw [x3.kdE]; exact k
          refine ⟨w1, fun _ => ⟨Rn.ret ?_, x2⟩, fun e => absurd (show (4 : Int) = 0 from e) (by omega), x3.mono (fun r j z => by omega)⟩
          rw [eX12_book_30, if_pos k, if_neg k7, if_pos k, x1]
          simp only [bI]
          rw [if_pos trivial, if_pos k1, x2.2]
      · rw [if_neg kw]
        obtain ⟨w1, x1, x2, x3⟩ := o_blineX (d := d) (c := c) hN.1 hR kw
        have k1 : kd w1 m = 10 := by rw [x3.kdE]; exact k
        refine ⟨w1, fun _ => ⟨Rn.ret ?_, x2⟩, fun e => absurd (show (1 : Int) = 0 from e) (by omega), x3.mono (fun r j z => by omega)⟩
        rw [eX12_book_30, if_pos k, if_neg k7, if_pos k, x1]
        simp only [bI]
        rw [if_pos trivial, if_pos k1, x2.2]
theorem o_liveM {e r i n : Int} (hA : MoI w m A) (hd : dOk A e r i n) (hw : whyM A e r i n = 0) : ∃ w', Ex pro (d + 6) 236 w [rV m, iV e, iV r, iV i, iV n] = some (none, w') ∧ MoI w' m (actM A e r i n) ∧ Mf w w' (fun r j => r = m + 2 ∧ 2607 ≤ j ∧ j < 5820) := by
  obtain ⟨X', a1, a2, a3⟩ := o_live (d := d) hA.1 hA.2 hd hw
  rw [sa_self] at a1
  refine ⟨_, a1, MoI.sa hA.1 a2, rfl, rfl, fun r j hp => ?_⟩
  rw [gvA]
  by_cases c : r = m + 2
  · rw [if_pos c, a3 j (by omega), c]
  · rw [if_neg c]
abbrev lvM (m r j : Int) : Prop := r = m + 2 ∧ 2607 ≤ j ∧ j < 5820
theorem o_goBy {c i : Int} {L : Int → Ln} (hM : MSh w m) (hA : MoI w m A) (hL : LiM w m c L) (g : LnG A (L i)) (hi : 0 ≤ i ∧ i < c) : ∃ w', Ex pro (d + 7) 258 w [rV m, iV (4 * i)] = some (some (iV (if whyL A (L i) = 0 then 0 else 10 * ((L i).1 - 4) + whyL A (L i))), w') ∧ MoI w' m (if whyL A (L i) = 0 then actL A (L i) else A) ∧ Mf w w' (lvM m) := by
  have k := hM.1.1
  have q13 := hM.2.2.2.2.2.2.2.2.2.2.2.2.2.1
  obtain ⟨l1, l2, l3⟩ := hL
  obtain ⟨u1, u2, u3, u4⟩ := l3 i hi.1 hi.2
  have rf := o_refusal (d := d + 3) hA g.1
  rw [← g.why] at rf
  have kr := g.eqs.1
  have rg : 0 ≤ whyL A (L i) ∧ whyL A (L i) ≤ 2 := whyN_rg A (L i).1 (L i).2.1 (L i).2.2.1 (L i).2.2.2
  have e1 : w32 (4 * i + 1) = 4 * i + 1 := w32_eq (by omega) (by omega)
  have e2 : w32 (4 * i + 2) = 4 * i + 2 := w32_eq (by omega) (by omega)
  have e3 : w32 (4 * i + 3) = 4 * i + 3 := w32_eq (by omega) (by omega)
  have j0 : kd w (m + 13) = 20 ∧ 0 ≤ 4 * i ∧ 4 * i < ln w (m + 13) := ⟨q13.2.1, by omega, by rw [q13.2.2]; omega⟩
  have j1 : kd w (m + 13) = 20 ∧ 0 ≤ 4 * i + 1 ∧ 4 * i + 1 < ln w (m + 13) := ⟨q13.2.1, by omega, by rw [q13.2.2]; omega⟩
  have j2 : kd w (m + 13) = 20 ∧ 0 ≤ 4 * i + 2 ∧ 4 * i + 2 < ln w (m + 13) := ⟨q13.2.1, by omega, by rw [q13.2.2]; omega⟩
  have j3 : kd w (m + 13) = 20 ∧ 0 ≤ 4 * i + 3 ∧ 4 * i + 3 < ln w (m + 13) := ⟨q13.2.1, by omega, by rw [q13.2.2]; omega⟩
  by_cases y : whyL A (L i) = 0
  · rw [if_pos y, if_pos y]
    obtain ⟨w', a1, a2, a3⟩ := o_liveM (d := d) hA g.1 (by rw [← g.why]; exact y)
    rw [← g.act] at a2
    refine ⟨w', xX12_goBy (Rn.ret ?_), a2, a3⟩
    rw [eX12_goBy_0, if_pos k, q13.1, if_pos j0, if_pos k, e1, e2, e3, if_pos j1, if_pos k, if_pos j2, if_pos k, if_pos j3, if_pos k, u1, u2, u3, u4, rf]
    simp only [bI]
    rw [if_pos y, if_pos k, q13.1, if_pos j1, if_pos k, if_pos j2, if_pos k, if_pos j3, if_pos k, u2, u3, u4, a1]
    simp only [bN]
  · rw [if_neg y, if_neg y]
    refine ⟨w, xX12_goBy (Rn.ret ?_), hA, Mf.refl _ _⟩
    rw [eX12_goBy_0, if_pos k, q13.1, if_pos j0, if_pos k, e1, e2, e3, if_pos j1, if_pos k, if_pos j2, if_pos k, if_pos j3, if_pos k, u1, u2, u3, u4, rf]
    simp only [bI]
    rw [if_neg y, w32_eq (x := 10 * ((L i).1 - 4)) (by omega) (by omega), w32_eq (by omega) (by omega)]
theorem l_mblive {c : Int} {L : Int → Ln} : ∀ (f : Nat) (i : Int) (w : sW) (A : Rm), i + f = 41 → 0 ≤ i → i ≤ c → MSh w m → MoI w m A → LiM w m c L → (∀ i, 0 ≤ i → i < c → LnG A (L i)) → ∃ w', (∀ res, Rn (Ex pro (d + 7)) mX12_book (78, [some (rV m), some (iV a1), some (iV (bkD L c f i A).1), some (iV (bkD L c f i A).2.1)], [], w') res → Rn (Ex pro (d + 7)) mX12_book (78, [some (rV m), some (iV a1), some (iV i), some (iV 0)], [], w) res) ∧ MoI w' m (bkD L c f i A).2.2 ∧ ((bkD L c f i A).2.1 = 0 → (bkD L c f i A).1 = c) ∧ Mf w w' (lvM m)
  | 0, i, w, A, hf, h0, hc, hM, hA, hL, hg => by
    have := hL.2.1
    omega
  | f + 1, i, w, A, hf, h0, hc, hM, hA, hL, hg => by
    have k := hM.1.1
    have cc := hL.2.1
    unfold bkD
    by_cases z : i < c
    · rw [if_pos z]
      have g := hg i h0 z
      obtain ⟨w1, x1, x2, x3⟩ := o_goBy (d := d) hM hA hL g ⟨h0, z⟩
      have rg : 0 ≤ whyL A (L i) ∧ whyL A (L i) ≤ 2 := whyN_rg A (L i).1 (L i).2.1 (L i).2.2.1 (L i).2.2.2
      have kr := g.eqs.1
      by_cases y : whyL A (L i) = 0
      · rw [if_pos y] at x1 x2 ⊢
        obtain ⟨w', g1, g2, g3, g4⟩ := l_mblive f (i + 1) w1 (actL A (L i)) (by omega) (by omega) (by omega) (hM.mf x3 (fun j z => by omega)) x2 (hL.mf x3 (by omega) (fun j hj => by omega)) (fun x x0 x1 => (hg x x0 x1).cg (actF_keep _ _ _ _ _).1)
        refine ⟨w', fun res r => Rn.cut ?_ (g1 res r), g2, g3, x3.tr g4⟩
        rw [eX12_book_78, if_pos k, hL.1, if_pos z, if_pos rfl, if_pos k, w32_eq (x := 4 * i) (by omega) (by omega), x1]
        simp only [bI]
        rw [if_pos trivial, w32_eq (x := i + 1) (by omega) (by omega)]
      · rw [if_neg y] at x1 x2 ⊢
        have nz : 10 * ((L i).1 - 4) + whyL A (L i) ≠ 0 := by omega
        refine ⟨w1, fun res r => Rn.cut ?_ r, x2, fun e => absurd e nz, x3⟩
        rw [eX12_book_78, if_pos k, hL.1, if_pos z, if_pos rfl, if_pos k, w32_eq (x := 4 * i) (by omega) (by omega), x1]
        simp only [bI]
        rw [if_neg nz]
    · rw [if_neg z]
      exact ⟨w, fun res r => r, hA, fun _ => by omega, Mf.refl _ _⟩
end MBk
