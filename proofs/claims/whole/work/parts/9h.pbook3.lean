/-! ===== the class's book: its answer ===== -/
abbrev bkY (t : Int → Int) (n : Int) (A : Rm) : Int := if (bkDa t n A).2.1 = 0 then -1 else (bkDa t n A).1
abbrev bkO (t : Int → Int) (n : Int) (A : Rm) (a1 : Int) : Prop := a1 = 1 ∧ 0 < (bkDa t n A).1
abbrev bkC (w : sW) (k r j : Int) : Prop := bkX r j ∨ (r = 32 ∧ (j = 3 ∨ j = 4)) ∨ (r = 85 ∧ (j = 1 ∨ j = 2)) ∨ (r = 86 ∧ j = k) ∨ (gv w 86 k ≠ 0 ∧ gv w 86 k ≤ r ∧ r ≤ gv w 86 k + 16)
section PBk3
variable {d : Nat} {w : sW} {t : Int → Int} {n q q' hk : Int} {A : Rm} {H : Int → Rm} {T : Int → Int}
theorem BkI.ag {w w' : sW} {P : Int → Int → Prop} (h : BkI w T) (g : Ag w w' P) (hn : 108 ≤ nx w) (h7 : ¬ P 32 7) (h14 : ¬ P 32 14) (hb : ∀ r j, (80 ≤ r ∧ r ≤ 84) ∨ r = 90 → ¬ P r j) : BkI w' T := by
  obtain ⟨⟨f7, c, L, hBo⟩, f14, fT⟩ := h
  obtain ⟨a1, a2, a3, a4, a5, a6, a7, a8⟩ := hBo
  refine ⟨⟨by rw [g.gvE (by omega) (by omega) h7]; exact f7, c, L, ?_⟩, ⟨by rw [g.gvE (by omega) (by omega) h14]; exact f14.1, by rw [g.kdE (by omega) (by omega)]; exact f14.2.1, by rw [g.lnE (by omega) (by omega)]; exact f14.2.2⟩, fun i i0 i1 => by rw [g.gvE (by omega) (by omega) (hb _ _ (by omega))]; exact fT i i0 i1⟩
  unfold BoI
  rw [g.kdE (by omega) (by omega), g.gvE (by omega) (by omega) (hb 80 0 (by omega)), g.gvE (by omega) (by omega) (hb 80 1 (by omega)), g.gvE (by omega) (by omega) (hb 80 2 (by omega)), g.gvE (by omega) (by omega) (hb 80 3 (by omega)), g.gvE (by omega) (by omega) (hb 80 4 (by omega)), g.kdE (r := 81) (by omega) (by omega), g.lnE (r := 81) (by omega) (by omega), g.kdE (r := 82) (by omega) (by omega), g.lnE (r := 82) (by omega) (by omega), g.kdE (r := 83) (by omega) (by omega), g.lnE (r := 83) (by omega) (by omega), g.kdE (r := 84) (by omega) (by omega), g.lnE (r := 84) (by omega) (by omega)]
  refine ⟨a1, a2, a3, a4, a5, a6, a7, fun i i0 i1 => ?_⟩
  rw [g.gvE (by omega) (by omega) (hb 81 i (by omega)), g.gvE (by omega) (by omega) (hb 82 i (by omega)), g.gvE (by omega) (by omega) (hb 83 i (by omega)), g.gvE (by omega) (by omega) (hb 84 i (by omega))]
  exact a8 i i0 i1
theorem WordI.ag {w w' : sW} {P : Int → Int → Prop} (h : WordI w) (g : Ag w w' P) (hn : 108 ≤ nx w) (hp : ∀ r j, 1 ≤ r → r ≤ 24 → ¬ P r j) : WordI w' := h.eq (g.eqO (by omega) (by omega) (fun r j r0 r1 => hp r j r0 r1))
theorem p_bookY (h : CD w q A hk H) (hs : SpI w q q') (hT : TpI w 32 0 1 33 t n) (h2 : gv w 32 2 = 34 ∧ kd w 34 = 4) (hW : WordI w) (hB : BkI w T) (e : (bkFa t n A).1 = 0) {a1 : Int} (ha : a1 = 0 ∨ a1 = 1) : ∃ w' k q1 q2, Ex pro (d + 7) 142 w [rV 32, iV a1] = some (some (iV (bkY t n A)), w') ∧ CD w' q1 (if bkO t n A a1 then (bkDa t n A).2.2 else A) (if bkO t n A a1 then pushK hk else hk) (if bkO t n A a1 then pushH hk H A else H) ∧ SpI w' q1 q2 ∧ TpI w' 32 0 1 33 t 0 ∧ gv w' 32 13 = 0 ∧ WordI w' ∧ BkI w' (bkT t n A) ∧ (0 ≤ k ∧ k < 8) ∧ Ag w w' (bkC w k) ∧ uc w' ≤ uc w + 17 ∧ us w' ≤ us w + 3240 := by
  have s3 := hs.2.2
  obtain ⟨w13, x1, x2, x3, x4, x5, x6, x7, x8, x9⟩ := l_book (d := d) h hs hT h2 hW hB e
  obtain ⟨h1, hq, h8, hH, hO, hS, hn⟩ := x2
  have k9 := h1.1
  have g7 := x7.1.1
  have nn : 108 ≤ nx w := h.2.2.2.2.2.2
  by_cases c : a1 = 0
  · have no : ¬ bkO t n A a1 := fun z => by omega
    rw [if_neg no, if_neg no, if_neg no]
    have sw := p_swap (d := d + 5) (w := w13) k9
    rw [h1.2.1, x3.1] at sw
    have m1 := Mf.svI w13 32 3 q'
    have m2 := Mf.svI (sv w13 32 3 q') 32 4 q
    have m12 : Mf w13 (sv (sv w13 32 3 q') 32 4 q) (fun r j => r = 32 ∧ (j = 3 ∨ j = 4)) := (m1.trans m2).mono (fun r j z => by omega)
    have g3 : gv (sv (sv w13 32 3 q') 32 4 q) 32 3 = q' := by rw [m2.gvE (by omega), gvSS]
    have g4 : gv (sv (sv w13 32 3 q') 32 4 q) 32 4 = q := gvSS _ _ _ _
    clear m1 m2
    generalize sv (sv w13 32 3 q') 32 4 q = w14 at sw m12 g3 g4
    have mm : Ag w w14 (bkC w 0) := (x9.ag.trans m12.ag).mono (fun r j _ _ z => by omega)
    refine ⟨w14, 0, q', q, p_book0 ha (Rn.ret ?_), ⟨⟨by rw [m12.kdE]; exact k9, g3, x3.2.mf m12 (fun r j r0 r1 => by omega)⟩, by omega, by rw [m12.gvE (by omega)]; exact h8, hH.ag hO m12.ag hn (fun r j z => by omega), hO.ag m12.ag hn (fun r j z => by omega), hS.ag hO m12.ag hn (fun r j z => by omega), by rw [m12.nxE]; exact hn⟩, ⟨g4, h1.2.2.1.eq (m12.eqO (fun r j r0 r1 => by omega)), by omega⟩, x4.mf m12 (by omega) (by omega) (fun j => by omega), by rw [m12.gvE (by omega)]; exact x5, x6.eq (m12.eqO (fun r j r0 r1 => by omega)), x7.ag m12.ag hn (by omega) (by omega) (fun r j z => by omega), by omega, mm, by rw [m12.ucE, x9.ucE]; omega, by rw [m12.usE, x9.usE]; omega⟩
    rw [x1, if_pos c, if_pos k9, sw]
    simp only [bN]
    rw [if_pos (by rw [m12.kdE]; exact k9), m12.gvE (by omega), g7, if_pos (by rw [m12.kdE]; exact x8.1), m12.gvE (by omega), x8.2]
    split <;> rfl
  · have c1 : a1 = 1 := by omega
    by_cases y : 0 < (bkDa t n A).1
    · have yes : bkO t n A a1 := ⟨c1, y⟩
      rw [if_pos yes, if_pos yes, if_pos yes]
      obtain ⟨w15, k, e1, e2, e3, e4, e5, e6, e7, e8⟩ := h_keep (d := d + 3) hH hO hS x3.2 (by omega) hn
      have b5 := hO.1 k e2.1 (by omega)
      have e5' : ow w13 k = gv w13 86 k := ow8 w13 e2.2
      have g86 : gv w13 86 k = gv w 86 k := x9.gvE (by omega)
      have hx : 108 ≤ nx w15 := by have := e6.1; omega
      have g157 : gv w15 32 7 = 80 := by rw [e6.gvE (by omega) (by omega) (by omega)]; exact g7
      have g80 : gv w15 80 5 = (bkDa t n A).2.1 := by rw [e6.gvE (by omega) (by omega) (by omega)]; exact x8.2
      refine ⟨w15, k, q, q', p_book0 ha (Rn.ret ?_), ⟨h1.ag e6 hn hq (by omega) (fun r j r0 r1 => by omega), hq, by rw [e6.gvE (by omega) (by omega) (by omega)]; exact h8, e3, e4, e5, hx⟩, ⟨by rw [e6.gvE (by omega) (by omega) (by omega)]; exact x3.1, x3.2.1.eq (e6.eqO (by omega) (by omega) (fun r j r0 r1 => by omega)), s3⟩, x4.ag e6 (by omega) (by omega) (by omega) (by omega) (fun j => by omega), by rw [e6.gvE (by omega) (by omega) (by omega)]; exact x5, x6.ag e6 hn (fun r j r0 r1 => by omega), x7.ag e6 hn (by omega) (by omega) (fun r j z => by omega), e2, (x9.ag.trans e6).mono (fun r j r0 r1 u => ?_), by have := x9.ucE; omega, by have := x9.usE; omega⟩
      · rw [x1, if_neg c, if_pos y, if_pos k9, if_pos k9, h8, if_pos hH.1.1, x3.1, e1]
        simp only [bN]
        rw [if_pos (by rw [e6.kdE (by omega) (by omega)]; exact k9), g157, if_pos (by rw [e6.kdE (by omega) (by omega)]; exact x8.1), g80]
        split <;> rfl
      · rw [g86] at u
        omega
    · have no : ¬ bkO t n A a1 := fun z => y z.2
      rw [if_neg no, if_neg no, if_neg no]
      have kp := bkD_keep (c := (bkFa t n A).2.2.1) (L := (bkFa t n A).2.2.2) 41 0 A
      have z1 : 0 ≤ (bkDa t n A).1 := kp.2.2.2.1
      have z0 : (bkDa t n A).1 = 0 := Int.le_antisymm (Int.not_lt.mp y) z1
      have zA : (bkDa t n A).2.2 = A := kp.2.2.2.2 z0
      rw [zA] at h1
      clear kp
      refine ⟨w13, 0, q, q', p_book0 ha (Rn.ret ?_), ⟨h1, hq, h8, hH, hO, hS, hn⟩, ⟨x3.1, x3.2.1, s3⟩, x4, x5, x6, x7, ⟨Int.le_refl _, by decide⟩, x9.ag.mono (fun r j _ _ z => Or.inl z), by rw [x9.ucE]; omega, by rw [x9.usE]; omega⟩
      rw [x1, if_neg c, if_neg y, if_pos k9, g7, if_pos x8.1, x8.2]
      split <;> rfl
end PBk3
