/-! ===== deeds by draws ===== -/
def lcg (x : Int) : Int := w32 (w32 (x * 1103515245) + 12345)
def dv (x n : Int) : Int := Int.tmod (f_iushr (lcg x) 8) n
theorem dv_rg {x n : Int} (h : 1 ≤ n) : 0 ≤ dv x n ∧ dv x n < n := by
  have z := z_iushr8 (lcg x)
  unfold dv
  rw [Int.tmod_eq_emod_of_nonneg z.1]
  exact ⟨Int.emod_nonneg _ (by omega), Int.emod_lt_of_pos _ (by omega)⟩
def x3F (x : Int) : Int := lcg (lcg (lcg x))
def dwD (x : Int) : Int := dv x 8
def dwR (A : Rm) (x : Int) : Int := dv (lcg x) A.1
def dwI (A : Rm) (x : Int) : Int := dv (lcg (lcg x)) (nA A (dwR A x) + 1)
def dwE (x : Int) : Int := if dwD x < 3 then 0 else if dwD x = 3 then 2 else if dwD x < 6 then 3 else if dwD x = 6 then 4 else 5
def dwN (A : Rm) (x : Int) : Int := if dwD x < 3 then dv (x3F x) 2 else if dwD x = 3 then dv (x3F x) 8 + 1 else if dwD x < 6 then dv (x3F x) 40 + 1 else dv (x3F x) A.1
abbrev dwOk (A : Rm) (x : Int) : Prop := ¬ (6 ≤ dwD x ∧ dwN A x = dwR A x) ∧ whyM A (dwE x) (dwR A x) (dwI A x) (dwN A x) = 0
def dwA (A : Rm) (x : Int) : Rm := if dwOk A x then actM A (dwE x) (dwR A x) (dwI A x) (dwN A x) else A
def dwX (x : Int) : Int := lcg (x3F x)
theorem dwA_keep (A : Rm) (x : Int) : (dwA A x).1 = A.1 ∧ (dwA A x).2.1 = A.2.1 ∧ (dwA A x).2.2.1 = A.2.2.1 := by
  unfold dwA
  split
  · exact actM_keep _ _ _ _ _
  · exact ⟨rfl, rfl, rfl⟩
theorem dw_ok {A : Rm} {x : Int} (hA : 1 ≤ A.1) (hn : ∀ r, isR A r → 0 ≤ nA A r ∧ nA A r ≤ 600) (h : ¬ (6 ≤ dwD x ∧ dwN A x = dwR A x)) : dOk A (dwE x) (dwR A x) (dwI A x) (dwN A x) := by
  have hR : isR A (dwR A x) := dv_rg (x := lcg x) hA
  have nR := hn _ hR
  have hI := dv_rg (x := lcg (lcg x)) (n := nA A (dwR A x) + 1) (by omega)
  have hI' : 0 ≤ dwI A x ∧ dwI A x < nA A (dwR A x) + 1 := hI
  have hD : 0 ≤ dwD x ∧ dwD x < 8 := dv_rg (x := x) (n := 8) (by omega)
  have h2 := dv_rg (x := x3F x) (n := 2) (by omega)
  have h8 := dv_rg (x := x3F x) (n := 8) (by omega)
  have h40 := dv_rg (x := x3F x) (n := 40) (by omega)
  have hS := dv_rg (x := x3F x) (n := A.1) hA
  unfold dwE
  unfold dwN at h ⊢
  by_cases c1 : dwD x < 3
  · rw [if_pos c1, if_pos c1]
    exact dOk_put (by unfold in32; omega) 0 (by omega) ⟨hR, by omega⟩
  · rw [if_neg c1, if_neg c1]
    rw [if_neg c1] at h
    by_cases c2 : dwD x = 3
    · rw [if_pos c2, if_pos c2]
      exact dOk_cut (by unfold in32; omega) 2 (by omega) ⟨hR, by omega, by omega⟩
    · rw [if_neg c2, if_neg c2]
      rw [if_neg c2] at h
      by_cases c3 : dwD x < 6
      · rw [if_pos c3, if_pos c3]
        exact dOk_cut (by unfold in32; omega) 3 (by omega) ⟨hR, by omega, by omega⟩
      · rw [if_neg c3, if_neg c3]
        rw [if_neg c3] at h
        have v : twV A (dwR A x) (dv (x3F x) A.1) := ⟨hR, hS, fun z => h ⟨by omega, z.symm⟩⟩
        by_cases c4 : dwD x = 6
        · rw [if_pos c4]
          exact dOk_two (by unfold in32; omega) 4 (by omega) v
        · rw [if_neg c4]
          exact dOk_two (by unfold in32; omega) 5 (by omega) v
section DR
variable {d : Nat} {w : sW} {m q : Int} {A : Rm}
theorem p_draw {g x n : Int} (hk : kd w g = 2) (hx : gv w g 0 = x) (hn : 1 ≤ n) : Ex pro (d + 1) 6 w [rV g, iV n] = some (some (iV (dv x n)), sv w g 0 (lcg x)) := by
  refine xX1_draw (Rn.ret ?_)
  have k1 : kd (sv w g 0 (lcg x)) g = 2 := hk
  rw [eX1_draw_0, if_pos hk, if_pos hk, hx, wl_eq, if_neg (by omega)]
  change (if kd (sv w g 0 (lcg x)) g = 2 then _ else _) = _
  rw [if_pos k1, if_neg (by omega)]
  change some (Sum.inr (some (iV (Int.tmod (f_iushr (gv (sv w g 0 (lcg x)) g 0) 8) n)), sv w g 0 (lcg x))) = _
  rw [gvSS]
  rfl
theorem o_draw {x n : Int} (hk : kd w m = 10) (hx : gv w m 29 = x) (hn : 1 ≤ n) : Ex pro (d + 1) 250 w [rV m, iV n] = some (some (iV (dv x n)), sv w m 29 (lcg x)) := by
  refine xX12_draw (Rn.ret ?_)
  have k1 : kd (sv w m 29 (lcg x)) m = 10 := hk
  rw [eX12_draw_0, if_pos hk, if_pos hk, hx, wl_eq]
  change (if kd (sv w m 29 (lcg x)) m = 10 then _ else _) = _
  rw [if_pos k1, if_neg (by omega)]
  change some (Sum.inr (some (iV (Int.tmod (f_iushr (gv (sv w m 29 (lcg x)) m 29) 8) n)), sv w m 29 (lcg x))) = _
  rw [gvSS]
  rfl
theorem p_done (h : StI w q A) {e r i n : Int} (hd : dOk A e r i n) (hn : in32 n) : ∃ w', Ex pro (d + 5) 8 w [rV q, rV (e + 4), iV (cA e r i), iV (cB e i n), iV (cC e n)] = some (some (iV (if whyM A e r i n = 0 then 1 else 0)), w') ∧ StI w' q (if whyM A e r i n = 0 then actM A e r i n else A) ∧ Fr w w' q (q + 16) := by
  obtain ⟨g1, g2, g3, g4, g5, g6, g7⟩ := hd
  have hb : in32 (cB e i n) := by unfold cB; split <;> assumption
  have hc : in32 (cC e n) := by
    unfold cC
    split
    · unfold in32; omega
    · exact hn
  have hy : Ex pro (d + 4) 86 w [rV q, rV (e + 4), iV (cA e r i), iV (cB e i n), iV (cC e n)] = some (some (iV (whyM A e r i n)), w) := m_whyNot (d := d + 1) h (e := e + 4) (a := cA e r i) (b := cB e i n) (c := cC e n) (by omega) hb hc
  by_cases c : whyM A e r i n = 0
  · rw [if_pos c, if_pos c]
    obtain ⟨w2, b1, b2, b3⟩ := m_act (d := d) h (e := e + 4) (a := cA e r i) (b := cB e i n) (c := cC e n) (by omega) c (fun z => by
      have z0 : e = 0 := by omega
      subst z0
      exact g4 (by omega)) (fun z => by
      have z0 : e = 6 := by omega
      subst z0
      exact g6 rfl) (fun z => by
      have z0 : e = 4 := by omega
      subst z0
      exact (g3 (by omega)).2) (fun z => by
      have z0 : e = 5 := by omega
      subst z0
      exact (g3 (by omega)).2)
    refine ⟨w2, xX1_done (Rn.ret ?_), b3, b2⟩
    rw [eX1_done_0, if_pos h.1.1.1, hy, c]
    simp only [bI]
    rw [if_pos trivial, if_pos h.1.1.1, b1]
    simp only [bN]
  · rw [if_neg c, if_neg c]
    refine ⟨w, xX1_done (Rn.ret ?_), h, Fr.refl _ _ _⟩
    rw [eX1_done_0, if_pos h.1.1.1, hy]
    simp only [bI]
    rw [if_neg c]
theorem o_doIf (h : NwSh w m) {X : Int → Int} (g : MX X A) {e r i n : Int} (hd : dOk A e r i n) : ∃ X', Ex pro (d + 7) 251 (sa w (m + 2) X) [rV m, iV e, iV r, iV i, iV n] = some (some (iV (if whyM A e r i n = 0 then 1 else 0)), sa w (m + 2) X') ∧ MX X' (if whyM A e r i n = 0 then actM A e r i n else A) ∧ ∀ x, x < 2607 ∨ 5820 ≤ x → X' x = X x := by
  have M := MoI.sa h g
  have hr := o_refusal (d := d + 3) M hd
  by_cases c : whyM A e r i n = 0
  · rw [if_pos c, if_pos c]
    obtain ⟨X', b1, b2, b3⟩ := o_live (d := d) h g hd c
    refine ⟨X', xX12_doIf (Rn.ret ?_), b2, b3⟩
    rw [eX12_doIf_0, if_pos M.1.1, hr, c]
    simp only [bI]
    rw [if_pos trivial, if_pos M.1.1, b1]
    simp only [bN]
  · rw [if_neg c, if_neg c]
    refine ⟨X, xX12_doIf (Rn.ret ?_), g, fun _ _ => rfl⟩
    rw [eX12_doIf_0, if_pos M.1.1, hr]
    simp only [bI]
    rw [if_neg c]
end DR
