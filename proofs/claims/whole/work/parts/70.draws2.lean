/-! ===== deeds by draws: one deed ===== -/
theorem dw_y {A : Rm} {x : Int} (h : ¬ (6 ≤ dwD x ∧ dwN A x = dwR A x)) : (if dwOk A x then (1 : Int) else 0) = (if whyM A (dwE x) (dwR A x) (dwI A x) (dwN A x) = 0 then 1 else 0) ∧ dwA A x = (if whyM A (dwE x) (dwR A x) (dwI A x) (dwN A x) = 0 then actM A (dwE x) (dwR A x) (dwI A x) (dwN A x) else A) := by
  unfold dwA
  by_cases c : whyM A (dwE x) (dwR A x) (dwI A x) (dwN A x) = 0
  · rw [if_pos c, if_pos c, if_pos (show dwOk A x from ⟨h, c⟩), if_pos (show dwOk A x from ⟨h, c⟩)]
    exact ⟨rfl, rfl⟩
  · rw [if_neg c, if_neg c, if_neg (show ¬ dwOk A x from fun z => c z.2), if_neg (show ¬ dwOk A x from fun z => c z.2)]
    exact ⟨rfl, rfl⟩
theorem dw_n {A : Rm} {x : Int} (h : 6 ≤ dwD x ∧ dwN A x = dwR A x) : (if dwOk A x then (1 : Int) else 0) = 0 ∧ dwA A x = A := by
  unfold dwA
  rw [if_neg (show ¬ dwOk A x from fun z => z.1 h), if_neg (show ¬ dwOk A x from fun z => z.1 h)]
  exact ⟨rfl, rfl⟩
theorem ite01 {P : Prop} [Decidable P] {α : Type} {a b : α} : (if (if P then (1 : Int) else 0) = 0 ∨ (if P then (1 : Int) else 0) = 1 then a else b) = a := by
  by_cases c : P
  · rw [if_pos c, if_pos (Or.inr rfl)]
  · rw [if_neg c, if_pos (Or.inl rfl)]
theorem some01 {P : Prop} [Decidable P] {w : sW} : (if P then (some (Sum.inr (some (iV 1), w)) : Option sO) else some (Sum.inr (some (iV 0), w))) = some (Sum.inr (some (iV (if P then 1 else 0)), w)) := by
  by_cases c : P
  · rw [if_pos c, if_pos c]
  · rw [if_neg c, if_neg c]
section DR2
variable {d : Nat} {w : sW} {m q : Int} {A : Rm}
theorem p_deedOn {g x : Int} (h : StI w q A) (hk : kd w g = 2) (hx : gv w g 0 = x) (hg : g < q ∨ q + 16 < g) (hA : 1 ≤ A.1) : ∃ w', Ex pro (d + 6) 7 w [rV g, rV q] = some (some (iV (if dwOk A x then 1 else 0)), w') ∧ StI w' q (dwA A x) ∧ gv w' g 0 = dwX x ∧ Mf w w' (fun r j => (r = g ∧ j = 0) ∨ (q ≤ r ∧ r ≤ q + 16)) := by
  have hD : 0 ≤ dwD x ∧ dwD x < 8 := dv_rg (x := x) (n := 8) (by omega)
  have hR : isR A (dwR A x) := dv_rg (x := lcg x) hA
  have hrow := h.2.2.2.2.2.1
  have hn : ∀ r, isR A r → 0 ≤ nA A r ∧ nA A r ≤ 600 := fun r hr => (hrow r hr.1 hr.2).2.1.2.1
  have nR := hn _ hR
  have q32 := h.1.2.2.2.2.2.2
  have S : ∀ v, StI (sv w g 0 v) q A := fun v => h.eq (EqO.sv (by omega))
  have K : ∀ v, kd (sv w g 0 v) g = 2 := fun _ => hk
  have G : ∀ v, gv (sv w g 0 v) g 0 = v := fun v => gvSS _ _ _ _
  have D1 : Ex pro (d + 5) 6 w [rV g, iV 8] = some (some (iV (dwD x)), sv w g 0 (lcg x)) := p_draw (d := d + 4) hk hx (n := 8) (by omega)
  have D2 : Ex pro (d + 5) 6 (sv w g 0 (lcg x)) [rV g, iV A.1] = some (some (iV (dwR A x)), sv w g 0 (lcg (lcg x))) := by
    have := p_draw (d := d + 4) (K (lcg x)) (G (lcg x)) (n := A.1) hA
    rw [sv_sv] at this
    exact this
  have D3 : Ex pro (d + 5) 6 (sv w g 0 (lcg (lcg x))) [rV g, iV (nA A (dwR A x) + 1)] = some (some (iV (dwI A x)), sv w g 0 (x3F x)) := by
    have := p_draw (d := d + 4) (K (lcg (lcg x))) (G (lcg (lcg x))) (n := nA A (dwR A x) + 1) (by omega)
    rw [sv_sv] at this
    exact this
  have D4 : ∀ n, 1 ≤ n → Ex pro (d + 5) 6 (sv w g 0 (x3F x)) [rV g, iV n] = some (some (iV (dv (x3F x) n)), sv w g 0 (dwX x)) := fun n hn => by
    have := p_draw (d := d + 4) (K (x3F x)) (G (x3F x)) (n := n) hn
    rw [sv_sv] at this
    exact this
  have q8 : ∀ v, kd (sv w g 0 v) q = 8 := fun v => (S v).1.1.1
  have q3 : ∀ v, gv (sv w g 0 v) q 3 = A.1 := fun v => (S v).2.1.1
  have ra := m_rowAt (d := d + 4) (S (lcg (lcg x))) (dwR A x)
  rw [if_pos hR] at ra
  have rI := (S (lcg (lcg x))).2.2.2.2.2.1 _ hR.1 hR.2
  have hRp : 0 ≤ dwR A x := hR.1
  have nn : in32 (dwN A x) := by
    have h2 := dv_rg (x := x3F x) (n := 2) (by omega)
    have h8 := dv_rg (x := x3F x) (n := 8) (by omega)
    have h40 := dv_rg (x := x3F x) (n := 40) (by omega)
    have hS := dv_rg (x := x3F x) (n := A.1) hA
    have a4 := h.2.2.1
    unfold in32 dwN
    split
    · omega
    · split
      · omega
      · split <;> omega
  have pd := fun (z : ¬ (6 ≤ dwD x ∧ dwN A x = dwR A x)) => p_done (d := d) (S (dwX x)) (dw_ok hA hn z) nn
  have mf0 : ∀ v, Mf w (sv w g 0 v) (fun r j => (r = g ∧ j = 0) ∨ (q ≤ r ∧ r ≤ q + 16)) := fun v => (Mf.svI w g 0 v).mono (fun r j z => Or.inl z)
  have h2 := dv_rg (x := x3F x) (n := 2) (by omega)
  have h8 := dv_rg (x := x3F x) (n := 8) (by omega)
  have h40 := dv_rg (x := x3F x) (n := 40) (by omega)
  have rn : gv (sv w g 0 (lcg (lcg x))) (q + 5 + 3 * dwR A x) 2 = nA A (dwR A x) := rI.1.2.1
  have key : ∃ w', sg (Ex pro (d + 5)) mX1_deedOn 2000 0 [some (rV g), some (rV q), none, none, none, none, none] [] w = some (.inr (some (iV (if dwOk A x then 1 else 0)), w')) ∧ StI w' q (dwA A x) ∧ gv w' g 0 = dwX x ∧ Mf w w' (fun r j => (r = g ∧ j = 0) ∨ (q ≤ r ∧ r ≤ q + 16)) := by
    rw [eX1_deedOn_0, if_pos h.1.1.1, h.2.1.1, if_neg (by omega), if_pos hk, D1]
    simp only [bI]
    rw [if_pos (q8 _), if_pos (K _), q3, D2]
    simp only []
    rw [if_pos (q8 _), ra, bR_eq (by omega), if_neg (by omega), if_pos rI.1.1.1, if_pos (K _), rn, w32_eq (by omega) (by omega), D3]
    simp only []
    have fin : ∀ (z : ¬ (6 ≤ dwD x ∧ dwN A x = dwR A x)) w', StI w' q (if whyM A (dwE x) (dwR A x) (dwI A x) (dwN A x) = 0 then actM A (dwE x) (dwR A x) (dwI A x) (dwN A x) else A) → Fr (sv w g 0 (dwX x)) w' q (q + 16) → StI w' q (dwA A x) ∧ gv w' g 0 = dwX x ∧ Mf w w' (fun r j => (r = g ∧ j = 0) ∨ (q ≤ r ∧ r ≤ q + 16)) := fun z w' a b => ⟨by rw [(dw_y z).2]; exact a, by rw [b.2.2 _ _ (by omega)]; exact G _, (mf0 _).tr (b.mf.mono (fun r j y => Or.inr y))⟩
    have hc : dwD x < 3 ∨ dwD x = 3 ∨ dwD x = 4 ∨ dwD x = 5 ∨ dwD x = 6 ∨ dwD x = 7 := by omega
    rcases hc with c | c | c | c | c | c
    · have z : ¬ (6 ≤ dwD x ∧ dwN A x = dwR A x) := by omega
      obtain ⟨w', a1, a2, a3⟩ := pd z
      have hE : dwE x = 0 := if_pos c
      have hN : dwN A x = dv (x3F x) 2 := if_pos c
      rw [(dw_y z).1]
      refine ⟨w', ?_, fin z w' a2 a3⟩
      rw [if_neg (by omega), if_neg (by omega), if_neg (by omega), if_neg (by omega), if_neg (by omega), if_pos (K _), D4 2 (by omega)]
      simp only []
      rw [hE, hN] at a1 ⊢
      have a1' : Ex pro (d + 5) 8 (sv w g 0 (dwX x)) [rV q, rV 4, iV (dwR A x), iV (dwI A x), iV (dv (x3F x) 2)] = some (some (iV (if whyM A 0 (dwR A x) (dwI A x) (dv (x3F x) 2) = 0 then 1 else 0)), w') := a1
      rw [a1']
      simp only [ite01]
    · have z : ¬ (6 ≤ dwD x ∧ dwN A x = dwR A x) := by omega
      obtain ⟨w', a1, a2, a3⟩ := pd z
      have hE : dwE x = 2 := by unfold dwE; rw [if_neg (by omega), if_pos c]
      have hN : dwN A x = dv (x3F x) 8 + 1 := by unfold dwN; rw [if_neg (by omega), if_pos c]
      rw [(dw_y z).1]
      refine ⟨w', ?_, fin z w' a2 a3⟩
      rw [if_pos c, if_pos (K _), D4 8 (by omega)]
      simp only []
      rw [hE, hN] at a1 ⊢
      have a1' : Ex pro (d + 5) 8 (sv w g 0 (dwX x)) [rV q, rV 6, iV (dwR A x), iV (dwI A x), iV (dv (x3F x) 8 + 1)] = some (some (iV (if whyM A 2 (dwR A x) (dwI A x) (dv (x3F x) 8 + 1) = 0 then 1 else 0)), w') := a1
      rw [w32_eq (by omega) (by omega), a1']
      simp only [ite01]
    · have z : ¬ (6 ≤ dwD x ∧ dwN A x = dwR A x) := by omega
      obtain ⟨w', a1, a2, a3⟩ := pd z
      have hE : dwE x = 3 := by unfold dwE; rw [if_neg (by omega), if_neg (by omega), if_pos (by omega)]
      have hN : dwN A x = dv (x3F x) 40 + 1 := by unfold dwN; rw [if_neg (by omega), if_neg (by omega), if_pos (by omega)]
      rw [(dw_y z).1]
      refine ⟨w', ?_, fin z w' a2 a3⟩
      rw [if_neg (by omega), if_pos c, if_pos (K _), D4 40 (by omega)]
      simp only []
      rw [hE, hN] at a1 ⊢
      have a1' : Ex pro (d + 5) 8 (sv w g 0 (dwX x)) [rV q, rV 7, iV (dwR A x), iV (dwI A x), iV (dv (x3F x) 40 + 1)] = some (some (iV (if whyM A 3 (dwR A x) (dwI A x) (dv (x3F x) 40 + 1) = 0 then 1 else 0)), w') := a1
      rw [w32_eq (by omega) (by omega), a1']
      simp only [ite01]
    · have z : ¬ (6 ≤ dwD x ∧ dwN A x = dwR A x) := by omega
      obtain ⟨w', a1, a2, a3⟩ := pd z
      have hE : dwE x = 3 := by unfold dwE; rw [if_neg (by omega), if_neg (by omega), if_pos (by omega)]
      have hN : dwN A x = dv (x3F x) 40 + 1 := by unfold dwN; rw [if_neg (by omega), if_neg (by omega), if_pos (by omega)]
      rw [(dw_y z).1]
      refine ⟨w', ?_, fin z w' a2 a3⟩
      rw [if_neg (by omega), if_neg (by omega), if_pos c, if_pos (K _), D4 40 (by omega)]
      simp only []
      rw [hE, hN] at a1 ⊢
      have a1' : Ex pro (d + 5) 8 (sv w g 0 (dwX x)) [rV q, rV 7, iV (dwR A x), iV (dwI A x), iV (dv (x3F x) 40 + 1)] = some (some (iV (if whyM A 3 (dwR A x) (dwI A x) (dv (x3F x) 40 + 1) = 0 then 1 else 0)), w') := a1
      rw [w32_eq (by omega) (by omega), a1']
      simp only [ite01]
    · have hN : dwN A x = dv (x3F x) A.1 := by unfold dwN; rw [if_neg (by omega), if_neg (by omega), if_neg (by omega)]
      rw [if_neg (by omega), if_neg (by omega), if_neg (by omega), if_pos c, if_pos (q8 _), if_pos (K _), q3, D4 A.1 hA]
      simp only []
      by_cases y : dv (x3F x) A.1 = dwR A x
      · have z : 6 ≤ dwD x ∧ dwN A x = dwR A x := ⟨by omega, by rw [hN]; exact y⟩
        rw [if_pos y, (dw_n z).1, (dw_n z).2]
        exact ⟨_, rfl, S _, G _, mf0 _⟩
      · have z : ¬ (6 ≤ dwD x ∧ dwN A x = dwR A x) := fun u => y (by rw [← hN]; exact u.2)
        obtain ⟨w', a1, a2, a3⟩ := pd z
        have hE : dwE x = 4 := by unfold dwE; rw [if_neg (by omega), if_neg (by omega), if_neg (by omega), if_pos c]
        rw [if_neg y, (dw_y z).1]
        refine ⟨w', ?_, fin z w' a2 a3⟩
        rw [hE, hN] at a1 ⊢
        have a1' : Ex pro (d + 5) 8 (sv w g 0 (dwX x)) [rV q, rV 8, iV (dwR A x), iV (dv (x3F x) A.1), iV 0] = some (some (iV (if whyM A 4 (dwR A x) (dwI A x) (dv (x3F x) A.1) = 0 then 1 else 0)), w') := a1
        rw [a1']
        simp only [ite10, some01]
    · have hN : dwN A x = dv (x3F x) A.1 := by unfold dwN; rw [if_neg (by omega), if_neg (by omega), if_neg (by omega)]
      rw [if_neg (by omega), if_neg (by omega), if_neg (by omega), if_neg (by omega), if_pos c, if_pos (q8 _), if_pos (K _), q3, D4 A.1 hA]
      simp only []
      by_cases y : dv (x3F x) A.1 = dwR A x
      · have z : 6 ≤ dwD x ∧ dwN A x = dwR A x := ⟨by omega, by rw [hN]; exact y⟩
        rw [if_pos y, (dw_n z).1, (dw_n z).2]
        exact ⟨_, rfl, S _, G _, mf0 _⟩
      · have z : ¬ (6 ≤ dwD x ∧ dwN A x = dwR A x) := fun u => y (by rw [← hN]; exact u.2)
        obtain ⟨w', a1, a2, a3⟩ := pd z
        have hE : dwE x = 5 := by unfold dwE; rw [if_neg (by omega), if_neg (by omega), if_neg (by omega), if_neg (by omega)]
        rw [if_neg y, (dw_y z).1]
        refine ⟨w', ?_, fin z w' a2 a3⟩
        rw [hE, hN] at a1 ⊢
        have a1' : Ex pro (d + 5) 8 (sv w g 0 (dwX x)) [rV q, rV 9, iV (dwR A x), iV (dwI A x), iV (dv (x3F x) A.1)] = some (some (iV (if whyM A 5 (dwR A x) (dwI A x) (dv (x3F x) A.1) = 0 then 1 else 0)), w') := a1
        rw [a1']
        simp only [ite10, some01]
  obtain ⟨w', k1, k2⟩ := key
  exact ⟨w', xX1_deedOn (Rn.ret k1), k2⟩
theorem o_drawsDeed {x : Int} (h : NwSh w m) {X : Int → Int} (g : MX X A) (hx : gv w m 29 = x) (hA : 1 ≤ A.1) : ∃ X', Ex pro (d + 8) 252 (sa w (m + 2) X) [rV m] = some (some (iV (if dwOk A x then 1 else 0)), sa (sv w m 29 (dwX x)) (m + 2) X') ∧ MX X' (dwA A x) ∧ ∀ y, y < 2607 ∨ 5820 ≤ y → X' y = X y := by
  have hD : 0 ≤ dwD x ∧ dwD x < 8 := dv_rg (x := x) (n := 8) (by omega)
  have hR : isR A (dwR A x) := dv_rg (x := lcg x) hA
  have sw : ∀ v, sv (sa w (m + 2) X) m 29 v = sa (sv w m 29 v) (m + 2) X := fun v => by
    unfold sv sa
    refine Prod.ext rfl (Prod.ext ?_ rfl)
    funext a j
    simp only []
    by_cases c : a = m + 2
    · rw [if_neg (by omega), if_pos c, if_pos c]
    · rw [if_neg c, if_neg c]
  have Nv : ∀ v, NwSh (sv w m 29 v) m := fun v => by
    obtain ⟨a1, a2, a3, a4, a5⟩ := h
    exact ⟨a1, by rw [gvS, if_neg (by omega)]; exact a2, a3, a4, a5⟩
  have M := MoI.sa h g
  have Mv : ∀ v, MoI (sa (sv w m 29 v) (m + 2) X) m A := fun v => MoI.sa (Nv v) g
  have G : ∀ v, gv (sa (sv w m 29 v) (m + 2) X) m 29 = v := fun v => by rw [gvA, if_neg (by omega), gvSS]
  have G0 : gv (sa w (m + 2) X) m 29 = x := by rw [gvA, if_neg (by omega)]; exact hx
  have sw2 : ∀ u v, sv (sa (sv w m 29 u) (m + 2) X) m 29 v = sa (sv w m 29 v) (m + 2) X := fun u v => by rw [← sw u, sv_sv, sw v]
  have nR := M.n6 hR
  have D1 : Ex pro (d + 7) 250 (sa w (m + 2) X) [rV m, iV 8] = some (some (iV (dwD x)), sa (sv w m 29 (lcg x)) (m + 2) X) := by
    have := o_draw (d := d + 6) M.1.1 G0 (n := 8) (by omega)
    rw [sw] at this
    exact this
  have D2 : Ex pro (d + 7) 250 (sa (sv w m 29 (lcg x)) (m + 2) X) [rV m, iV A.1] = some (some (iV (dwR A x)), sa (sv w m 29 (lcg (lcg x))) (m + 2) X) := by
    have := o_draw (d := d + 6) (Mv (lcg x)).1.1 (G (lcg x)) (n := A.1) hA
    rw [sw2] at this
    exact this
  have D3 : Ex pro (d + 7) 250 (sa (sv w m 29 (lcg (lcg x))) (m + 2) X) [rV m, iV (nA A (dwR A x) + 1)] = some (some (iV (dwI A x)), sa (sv w m 29 (x3F x)) (m + 2) X) := by
    have := o_draw (d := d + 6) (Mv (lcg (lcg x))).1.1 (G (lcg (lcg x))) (n := nA A (dwR A x) + 1) (by omega)
    rw [sw2] at this
    exact this
  have D4 : ∀ n, 1 ≤ n → Ex pro (d + 7) 250 (sa (sv w m 29 (x3F x)) (m + 2) X) [rV m, iV n] = some (some (iV (dv (x3F x) n)), sa (sv w m 29 (dwX x)) (m + 2) X) := fun n hn => by
    have := o_draw (d := d + 6) (Mv (x3F x)).1.1 (G (x3F x)) (n := n) hn
    rw [sw2] at this
    exact this
  have pd := fun (z : ¬ (6 ≤ dwD x ∧ dwN A x = dwR A x)) => o_doIf (d := d) (Nv (dwX x)) g (dw_ok hA (fun r hr => M.n6 hr) z)
  have h2 := dv_rg (x := x3F x) (n := 2) (by omega)
  have h8 := dv_rg (x := x3F x) (n := 8) (by omega)
  have h40 := dv_rg (x := x3F x) (n := 40) (by omega)
  have kk : ∀ v, kd (sa (sv w m 29 v) (m + 2) X) m = 10 := fun v => (Mv v).1.1
  have g0 : ∀ v, kd (sa (sv w m 29 v) (m + 2) X) (gv (sa (sv w m 29 v) (m + 2) X) m 14) = 20 ∧ 0 ≤ (0 : Int) ∧ (0 : Int) < ln (sa (sv w m 29 v) (m + 2) X) (gv (sa (sv w m 29 v) (m + 2) X) m 14) := fun v => (Mv v).1.g (by omega) (by omega)
  have c0 : ∀ v, gv (sa (sv w m 29 v) (m + 2) X) (gv (sa (sv w m 29 v) (m + 2) X) m 14) 0 = A.1 := fun v => by rw [(Mv v).1.2.1]; exact (Mv v).2.1
  have key : ∃ X', sg (Ex pro (d + 7)) mX12_drawsDeed 2000 0 [some (rV m), none, none, none, none] [] (sa w (m + 2) X) = some (.inr (some (iV (if dwOk A x then 1 else 0)), sa (sv w m 29 (dwX x)) (m + 2) X')) ∧ MX X' (dwA A x) ∧ ∀ y, y < 2607 ∨ 5820 ≤ y → X' y = X y := by
    rw [eX12_drawsDeed_0, if_pos M.1.1, D1]
    simp only [bI]
    rw [if_pos (kk _), if_pos (g0 _), if_pos (kk _), c0, D2]
    simp only []
    rw [if_pos (kk _), (Mv _).size hR]
    simp only []
    rw [if_pos (kk _), w32_eq (by omega) (by omega), D3]
    simp only []
    have hc : dwD x < 3 ∨ dwD x = 3 ∨ dwD x = 4 ∨ dwD x = 5 ∨ dwD x = 6 ∨ dwD x = 7 := by omega
    rcases hc with c | c | c | c | c | c
    · have z : ¬ (6 ≤ dwD x ∧ dwN A x = dwR A x) := by omega
      obtain ⟨X', a1, a2, a3⟩ := pd z
      have hE : dwE x = 0 := if_pos c
      have hN : dwN A x = dv (x3F x) 2 := if_pos c
      rw [(dw_y z).1, (dw_y z).2]
      refine ⟨X', ?_, a2, a3⟩
      rw [if_pos c, if_pos (kk _), D4 2 (by omega)]
      simp only []
      rw [hE, hN] at a1 ⊢
      rw [if_pos (kk _), a1]
      simp only [ite01]
    · have z : ¬ (6 ≤ dwD x ∧ dwN A x = dwR A x) := by omega
      obtain ⟨X', a1, a2, a3⟩ := pd z
      have hE : dwE x = 2 := by unfold dwE; rw [if_neg (by omega), if_pos c]
      have hN : dwN A x = dv (x3F x) 8 + 1 := by unfold dwN; rw [if_neg (by omega), if_pos c]
      rw [(dw_y z).1, (dw_y z).2]
      refine ⟨X', ?_, a2, a3⟩
      rw [if_neg (by omega), if_pos c, if_pos (kk _), D4 8 (by omega)]
      simp only []
      rw [hE, hN] at a1 ⊢
      rw [if_pos (kk _), w32_eq (by omega) (by omega), a1]
      simp only [ite01]
    · have z : ¬ (6 ≤ dwD x ∧ dwN A x = dwR A x) := by omega
      obtain ⟨X', a1, a2, a3⟩ := pd z
      have hE : dwE x = 3 := by unfold dwE; rw [if_neg (by omega), if_neg (by omega), if_pos (by omega)]
      have hN : dwN A x = dv (x3F x) 40 + 1 := by unfold dwN; rw [if_neg (by omega), if_neg (by omega), if_pos (by omega)]
      rw [(dw_y z).1, (dw_y z).2]
      refine ⟨X', ?_, a2, a3⟩
      rw [if_neg (by omega), if_neg (by omega), if_pos (by omega), if_pos (kk _), D4 40 (by omega)]
      simp only []
      rw [hE, hN] at a1 ⊢
      rw [if_pos (kk _), w32_eq (by omega) (by omega), a1]
      simp only [ite01]
    · have z : ¬ (6 ≤ dwD x ∧ dwN A x = dwR A x) := by omega
      obtain ⟨X', a1, a2, a3⟩ := pd z
      have hE : dwE x = 3 := by unfold dwE; rw [if_neg (by omega), if_neg (by omega), if_pos (by omega)]
      have hN : dwN A x = dv (x3F x) 40 + 1 := by unfold dwN; rw [if_neg (by omega), if_neg (by omega), if_pos (by omega)]
      rw [(dw_y z).1, (dw_y z).2]
      refine ⟨X', ?_, a2, a3⟩
      rw [if_neg (by omega), if_neg (by omega), if_pos (by omega), if_pos (kk _), D4 40 (by omega)]
      simp only []
      rw [hE, hN] at a1 ⊢
      rw [if_pos (kk _), w32_eq (by omega) (by omega), a1]
      simp only [ite01]
    · have hN : dwN A x = dv (x3F x) A.1 := by unfold dwN; rw [if_neg (by omega), if_neg (by omega), if_neg (by omega)]
      rw [if_neg (by omega), if_neg (by omega), if_neg (by omega), if_pos (kk _), if_pos (g0 _), if_pos (kk _), c0, D4 A.1 hA]
      simp only []
      by_cases y : dv (x3F x) A.1 = dwR A x
      · have z : 6 ≤ dwD x ∧ dwN A x = dwR A x := ⟨by omega, by rw [hN]; exact y⟩
        rw [if_pos y, (dw_n z).1, (dw_n z).2]
        exact ⟨X, rfl, g, fun _ _ => rfl⟩
      · have z : ¬ (6 ≤ dwD x ∧ dwN A x = dwR A x) := fun u => y (by rw [← hN]; exact u.2)
        obtain ⟨X', a1, a2, a3⟩ := pd z
        have hE : dwE x = 4 := by unfold dwE; rw [if_neg (by omega), if_neg (by omega), if_neg (by omega), if_pos c]
        rw [if_neg y, (dw_y z).1, (dw_y z).2]
        refine ⟨X', ?_, a2, a3⟩
        rw [hE, hN] at a1 ⊢
        rw [if_pos c, if_pos (kk _), a1]
        simp only [ite10, some01]
    · have hN : dwN A x = dv (x3F x) A.1 := by unfold dwN; rw [if_neg (by omega), if_neg (by omega), if_neg (by omega)]
      rw [if_neg (by omega), if_neg (by omega), if_neg (by omega), if_pos (kk _), if_pos (g0 _), if_pos (kk _), c0, D4 A.1 hA]
      simp only []
      by_cases y : dv (x3F x) A.1 = dwR A x
      · have z : 6 ≤ dwD x ∧ dwN A x = dwR A x := ⟨by omega, by rw [hN]; exact y⟩
        rw [if_pos y, (dw_n z).1, (dw_n z).2]
        exact ⟨X, rfl, g, fun _ _ => rfl⟩
      · have z : ¬ (6 ≤ dwD x ∧ dwN A x = dwR A x) := fun u => y (by rw [← hN]; exact u.2)
        obtain ⟨X', a1, a2, a3⟩ := pd z
        have hE : dwE x = 5 := by unfold dwE; rw [if_neg (by omega), if_neg (by omega), if_neg (by omega), if_neg (by omega)]
        rw [if_neg y, (dw_y z).1, (dw_y z).2]
        refine ⟨X', ?_, a2, a3⟩
        rw [hE, hN] at a1 ⊢
        rw [if_neg (by omega), if_pos (kk _), a1]
        simp only [ite10, some01]
  obtain ⟨X', k1, k2⟩ := key
  exact ⟨X', xX12_drawsDeed (Rn.ret k1), k2⟩
end DR2
