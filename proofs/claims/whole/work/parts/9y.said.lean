/-! ===== said ===== -/
/-- rows of which it may be said, from p on: the k-th, or how many -/
def sdF (g : Int → Bool) (k : Int) : Nat → Int → Int → Int
  | 0, _, c => if k = -1 then c else -1
  | i + 1, p, c => if g p = true then (if c = k then p else sdF g k i (p + 1) (c + 1)) else sdF g k i (p + 1) c
theorem sdF_neg {g : Int → Bool} {k : Int} (hk : k < -1) : ∀ (i : Nat) (p c : Int), 0 ≤ c → sdF g k i p c = -1
  | 0, p, c, h => if_neg (by omega)
  | i + 1, p, c, h => by
    unfold sdF
    split
    · rw [if_neg (by omega)]
      exact sdF_neg hk i _ _ (by omega)
    · exact sdF_neg hk i _ _ h
def saidF (A : Rm) (b : Bool) (f : Sb) (k : Int) : Int := if b then sdF (f A) k A.1.toNat 0 0 else -1
section HO
variable {d : Nat} {w : sW} {m : Int} {A : Rm}
theorem i32_4 {k : Int} (h : 0 ≤ k ∧ k ≤ 59) : w32 (4 * k) = 4 * k ∧ w32 (5822 + 4 * k) = 5822 + 4 * k ∧ w32 (5822 + 4 * k + 1) = 5822 + 4 * k + 1 ∧ w32 (5822 + 4 * k + 2) = 5822 + 4 * k + 2 ∧ w32 (5822 + 4 * k + 3) = 5822 + 4 * k + 3 := ⟨w32_eq (by omega) (by omega), w32_eq (by omega) (by omega), w32_eq (by omega) (by omega), w32_eq (by omega) (by omega), w32_eq (by omega) (by omega)⟩
/-- the tail of a comparison -/
theorem l_hCmp {x s y : Int} : (if s = 60 then (if x < y then (some (.inr (some (iV 1), w)) : Option sO) else some (.inr (some (iV 0), w))) else if s = 61 then (if x = y then some (.inr (some (iV 1), w)) else some (.inr (some (iV 0), w))) else if y < x then some (.inr (some (iV 1), w)) else some (.inr (some (iV 0), w))) = some (.inr (some (iV (bI1 (if s = 60 then decide (x < y) else if s = 61 then decide (x = y) else decide (y < x)))), w)) := by
  by_cases c0 : s = 60
  · rw [if_pos c0, if_pos c0, dec1]
  · rw [if_neg c0, if_neg c0]
    by_cases c1 : s = 61
    · rw [if_pos c1, if_pos c1, dec1]
    · rw [if_neg c1, if_neg c1, dec1]
theorem o_holds (hA : MoI w m A) {r : Int} (hr : isR A r) : ∀ (g : Nat) (k : Int) (f : Sb), g ≤ 40 → Nd (fun x => gv w (m + 2) (5822 + x)) A.1 g k f → Ex pro (d + g + 5) 274 w [rV m, iV k, iV r] = some (some (iV (bI1 (f A r))), w)
  | 0, k, f, hg, h => h.elim
  | g + 1, k, f, hg, h => by
    unfold Nd at h
    obtain ⟨hk, h⟩ := h
    have k10 := hA.1.1
    have q2 := hA.1.2
    obtain ⟨u0, u1, u2, u3, u4⟩ := i32_4 (k := k) (by omega)
    have ib : ∀ x, 0 ≤ x ∧ x < 6062 → kd w (m + 2) = 20 ∧ 0 ≤ x ∧ x < ln w (m + 2) := fun x hx => ⟨q2.2.1, hx.1, by rw [q2.2.2.1]; exact hx.2⟩
    have e1 : (5822 : Int) + (4 * k + 1) = 5822 + 4 * k + 1 := by omega
    have e2 : (5822 : Int) + (4 * k + 2) = 5822 + 4 * k + 2 := by omega
    have e3 : (5822 : Int) + (4 * k + 3) = 5822 + 4 * k + 3 := by omega
    simp only [e1, e2, e3] at h
    have n6 := hA.n6 hr
    rw [show d + (g + 1) + 5 = d + g + 5 + 1 by omega]
    refine xX12_holds (Rn.ret ?_)
    rw [eX12_holds_0, if_pos k10, q2.1, u0, u1, u2, u3, u4, if_pos (ib _ (by omega)), if_pos k10, if_pos (ib _ (by omega)), if_pos k10, if_pos (ib _ (by omega))]
    rcases h with ⟨h1, f1, h2, h3⟩ | ⟨h1, f1, f2, h2, h3, h4⟩ | ⟨h1, f1, f2, h2, h3, h4⟩ | ⟨h1, h2, h3⟩
    · have i1 := o_holds hA hr g _ f1 (by omega) h2
      rw [h1, if_pos rfl, if_pos k10, i1, h3 A r rfl hr]
      simp only [bI]
      cases f1 A r <;> rfl
    · have i1 := o_holds hA hr g _ f1 (by omega) h2
      have i2 := o_holds hA hr g _ f2 (by omega) h3
      rw [h1, if_neg (by omega), if_pos rfl, if_pos k10, i1, h4 A r rfl hr]
      simp only [bI]
      cases f1 A r
      · rfl
      · rw [if_neg (by simp), if_pos k10, i2]
        simp only []
        cases f2 A r <;> rfl
    · have i1 := o_holds hA hr g _ f1 (by omega) h2
      have i2 := o_holds hA hr g _ f2 (by omega) h3
      rw [h1, if_neg (by omega), if_neg (by omega), if_pos rfl, if_pos k10, i1, h4 A r rfl hr]
      simp only [bI]
      cases f1 A r
      · rw [if_pos (by simp), if_pos k10, i2]
        simp only []
        cases f2 A r <;> rfl
      · rfl
    · rw [h3 A r rfl hr]
      generalize hc : gv w (m + 2) (5822 + 4 * k) = c at h1 h2 ⊢
      rw [if_neg (by omega), if_neg (by omega), if_neg (by omega)]
      unfold plF
      by_cases c4 : c = 64
      · rw [if_pos c4, if_pos k10, hA.size hr, if_pos (show c - 49 = 15 by omega)]
        simp only [bI]
        rw [dec1]
      · rw [if_neg c4, if_neg (show ¬ c - 49 = 15 by omega)]
        by_cases c5 : c = 65
        · rw [if_pos c5, if_pos k10, hA.onesOf hr, if_pos (show c - 49 = 16 by omega)]
          simp only [bI]
          rw [if_neg (by decide), dec1]
        · rw [if_neg c5, if_neg (show ¬ c - 49 = 16 by omega)]
          by_cases c6 : c = 66
          · have hx := h2 (Or.inl c6)
            rw [if_pos c6, if_pos k10, hA.like hr hx, if_pos (show c - 49 = 17 by omega), if_pos (Or.inl c6)]
            simp only [bI]
            by_cases y : difF (bA A r) (bA A (gv w (m + 2) (5822 + 4 * k + 1))) (nA A r) (nA A (gv w (m + 2) (5822 + 4 * k + 1))) = -1
            · rw [if_pos y, if_pos (by simp), decide_eq_true (show isR A (gv w (m + 2) (5822 + 4 * k + 1)) ∧ lkF A r (gv w (m + 2) (5822 + 4 * k + 1)) = -1 from ⟨hx, y⟩)]
              rfl
            · rw [if_neg y, if_pos (by simp), decide_eq_false (show ¬ (isR A (gv w (m + 2) (5822 + 4 * k + 1)) ∧ lkF A r (gv w (m + 2) (5822 + 4 * k + 1)) = -1) from fun z => y z.2)]
              rfl
          · rw [if_neg c6, if_neg (show ¬ c - 49 = 17 by omega)]
            by_cases c7 : c = 67
            · have hx := h2 (Or.inr c7)
              rw [if_pos c7, if_pos k10, hA.begins hr hx, if_pos (show c - 49 = 18 by omega), if_pos (Or.inr c7)]
              simp only [bI]
              by_cases y : difF (bA A r) (bA A (gv w (m + 2) (5822 + 4 * k + 1))) (nA A r) (nA A (gv w (m + 2) (5822 + 4 * k + 1))) = -1 ∨ difF (bA A r) (bA A (gv w (m + 2) (5822 + 4 * k + 1))) (nA A r) (nA A (gv w (m + 2) (5822 + 4 * k + 1))) = nA A (gv w (m + 2) (5822 + 4 * k + 1))
              · rw [if_pos y, if_pos (by simp), decide_eq_true (show isR A (gv w (m + 2) (5822 + 4 * k + 1)) ∧ (lkF A r (gv w (m + 2) (5822 + 4 * k + 1)) = -1 ∨ lkF A r (gv w (m + 2) (5822 + 4 * k + 1)) = nA A (gv w (m + 2) (5822 + 4 * k + 1))) from ⟨hx, y⟩)]
                rfl
              · rw [if_neg y, if_pos (by simp), decide_eq_false (show ¬ (isR A (gv w (m + 2) (5822 + 4 * k + 1)) ∧ (lkF A r (gv w (m + 2) (5822 + 4 * k + 1)) = -1 ∨ lkF A r (gv w (m + 2) (5822 + 4 * k + 1)) = nA A (gv w (m + 2) (5822 + 4 * k + 1)))) from fun z => y z.2)]
                rfl
            · have c67 : ¬ (c = 66 ∨ c = 67) := by omega
              have w50 : w32 (c - 50) = c - 50 := w32_eq (by omega) (by omega)
              rw [if_neg c7, if_neg (show ¬ c - 49 = 18 by omega), if_neg c67, if_pos k10, if_pos (ib _ (by omega)), w50]
              unfold msF
              by_cases d0 : c = 68
              · rw [if_pos (show c - 50 = 18 by omega), if_pos (show c - 49 = 19 by omega), if_pos k10, hA.size hr]
                simp only [bI]
                rw [if_pos k10, q2.1, if_pos (ib _ (by omega)), if_pos k10, if_pos (ib _ (by omega))]
                exact l_hCmp
              · rw [if_neg (show ¬ c - 50 = 18 by omega), if_neg (show ¬ c - 49 = 19 by omega)]
                by_cases d1 : c = 69
                · rw [if_pos (show c - 50 = 19 by omega), if_pos (show c - 49 = 20 by omega), if_pos k10, hA.onesOf hr]
                  simp only [bI]
                  rw [if_pos k10, q2.1, if_pos (ib _ (by omega)), if_pos k10, if_pos (ib _ (by omega))]
                  exact l_hCmp
                · rw [if_neg (show ¬ c - 50 = 19 by omega), if_neg (show ¬ c - 49 = 20 by omega)]
                  by_cases d2 : c = 70
                  · rw [if_pos (show c - 50 = 20 by omega), if_pos (show c - 49 = 21 by omega), if_pos k10, hA.runs hr]
                    simp only [bI]
                    rw [if_pos k10, q2.1, if_pos (ib _ (by omega)), if_pos k10, if_pos (ib _ (by omega))]
                    exact l_hCmp
                  · rw [if_neg (show ¬ c - 50 = 20 by omega), if_neg (show ¬ c - 49 = 21 by omega)]
                    have r4 := hA.r4 hr
                    have kn := hA.kn hr
                    by_cases d3 : c = 71
                    · rw [if_pos (show c - 50 = 21 by omega), if_pos (show c - 49 = 22 by omega)]
                      simp only [w32_eq (x := 2611 + r) (by omega) (by omega), kn, q2.1, if_pos k10, if_pos (ib (2611 + r) (by omega)), if_pos (ib (5822 + 4 * k + 3) (by omega))]
                      exact l_hCmp
                    · rw [if_neg (show ¬ c - 50 = 21 by omega), if_neg (show ¬ c - 49 = 22 by omega)]
                      simp only [q2.1, if_pos k10, if_pos (ib (5822 + 4 * k + 3) (by omega))]
                      exact l_hCmp
theorem l_mSaid (hA : MoI w m A) {f : Sb} (hN : Nd (fun x => gv w (m + 2) (5822 + x)) A.1 40 (gv w (m + 2) 5821) f) {k : Int} : ∀ (i : Nat) (p c : Int), p + i = A.1 → 0 ≤ p → 0 ≤ c → c ≤ p → Rn (Ex pro (d + 45)) mX12_said (22, [some (rV m), some (iV k), some (iV c), some (iV p)], [], w) (some (iV (sdF (f A) k i p c)), w)
  | 0, p, c, hp, h0, c0, cp => by
    have k10 := hA.1.1
    have q2 := hA.1.2
    have e0 : gv w (m + 2) 0 = A.1 := hA.2.1
    refine Rn.ret ?_
    rw [eX12_said_22, if_pos k10, q2.1, if_pos ⟨q2.2.1, by omega, by rw [q2.2.2.1]; omega⟩, e0, if_neg (by omega)]
    unfold sdF
    split <;> rfl
  | i + 1, p, c, hp, h0, c0, cp => by
    have k10 := hA.1.1
    have q2 := hA.1.2
    have A4 := hA.2.2.2.1
    have e0 : gv w (m + 2) 0 = A.1 := hA.2.1
    have ho := o_holds (d := d) hA (r := p) ⟨h0, by omega⟩ 40 _ f (by omega) hN
    have hd : sg (Ex pro (d + 45)) mX12_said 2000 22 [some (rV m), some (iV k), some (iV c), some (iV p)] [] w = if bI1 (f A p) = 0 then
    (some (.inl (22, [some (rV m), some (iV k), some (iV c), some (iV (p + 1))], [], w)))
   else
   if c = k then
    (some (.inr (some (iV p), w)))
   else
   some (.inl (22, [some (rV m), some (iV k), some (iV (c + 1)), some (iV (p + 1))], [], w)) := by
      rw [eX12_said_22, if_pos k10, q2.1, if_pos ⟨q2.2.1, by omega, by rw [q2.2.2.1]; omega⟩, e0, if_pos (by omega), if_pos k10, if_pos ⟨q2.2.1, by omega, by rw [q2.2.2.1]; omega⟩, if_pos k10, ho]
      simp only [bI]
      rw [w32_eq (x := p + 1) (by omega) (by omega), w32_eq (x := c + 1) (by omega) (by omega)]
    unfold sdF
    cases hf : f A p
    · rw [if_neg (by simp)]
      refine Rn.cut ?_ (l_mSaid hA hN i (p + 1) c (by omega) (by omega) c0 (by omega))
      rw [hd, hf, if_pos (by simp)]
    · rw [if_pos rfl]
      by_cases y : c = k
      · rw [if_pos y]
        refine Rn.ret ?_
        rw [hd, hf, if_neg (by simp), if_pos y]
      · rw [if_neg y]
        refine Rn.cut ?_ (l_mSaid hA hN i (p + 1) (c + 1) (by omega) (by omega) (by omega) (by omega))
        rw [hd, hf, if_neg (by simp), if_neg y]
theorem q_said (hA : MoI w m A) {b : Bool} {f : Sb} (hN : SeN (gv w (m + 2)) A.1 b f) (k : Int) : Ex pro (d + 46) 275 w [rV m, iV k] = some (some (iV (saidF A b f k)), sv w m 0 0) := by
  have k10 := hA.1.1
  have q2 := hA.1.2
  have A4 := hA.2.2.2.1
  have m0 := Mf.svI w m 0 0
  have k1 : kd (sv w m 0 0) m = 10 := k10
  have p1 : gv (sv w m 0 0) m 14 = m + 2 := by rw [m0.gvE (by omega)]; exact q2.1
  have x2 : ∀ x, gv (sv w m 0 0) (m + 2) x = gv w (m + 2) x := fun x => m0.gvE (by omega)
  have i1 : kd (sv w m 0 0) (m + 2) = 20 ∧ 0 ≤ (5820 : Int) ∧ (5820 : Int) < ln (sv w m 0 0) (m + 2) := ⟨q2.2.1, by omega, by rw [show ln (sv w m 0 0) (m + 2) = 6062 from q2.2.2.1]; omega⟩
  unfold saidF
  cases b with
  | false =>
    refine xX12_said (Rn.ret ?_)
    rw [eX12_said_0, if_pos k10, wl_eq, if_pos k1, p1, if_pos i1, x2, if_pos (hN.1 rfl)]
    rfl
  | true =>
    obtain ⟨y1, y2⟩ := hN.2 rfl
    have N1 : Nd (fun x => gv (sv w m 0 0) (m + 2) (5822 + x)) A.1 40 (gv (sv w m 0 0) (m + 2) 5821) f := by
      rw [x2]
      exact y2.to (Nat.le_refl _) (fun x x0 x1 => x2 _)
    refine xX12_said (Rn.cut ?_ (l_mSaid (d := d) hA.t0 N1 A.1.toNat 0 0 (by omega) (by omega) (by omega) (by omega)))
    rw [eX12_said_0, if_pos k10, wl_eq, if_pos k1, p1, if_pos i1, x2, y1, if_neg (by omega)]
end HO
section PSd
variable {d : Nat} {w : sW} {q s : Int} {A : Rm} {f : Sb} {k c0 : Int} {L : List Sp}
theorem l_pSaid (hq : q = 36 ∨ q = 53) (hs : s = 70 ∨ s = 75) (hD : Dn A.1 [] L f) : ∀ (i : Nat) (p c : Int) (w : sW), kd w 32 = 9 → gv w 32 3 = q → gv w 32 5 = s → StI w q A → SeR w s c0 L → p + i = A.1 → 0 ≤ p → 0 ≤ c → c ≤ p → ∃ w', Rn (Ex pro (d + 6)) mX11_said (21, [some (rV 32), some (iV k), some (iV c), some (iV p)], [], w) (some (iV (sdF (f A) k i p c)), w') ∧ Mf w w' (fun r _ => r = s + 4)
  | 0, p, c, w, k9, g3, g5, hS, hE, hp, h0, c0, cp => by
    refine ⟨w, Rn.ret ?_, Mf.refl _ _⟩
    rw [eX11_said_21, if_pos k9, g3, if_pos hS.1.1.1, hS.2.1.1, if_neg (by omega)]
    unfold sdF
    split <;> rfl
  | i + 1, p, c, w, k9, g3, g5, hS, hE, hp, h0, c0, cp => by
    have A4 := hS.2.2.1
    obtain ⟨w1, a1, a2⟩ := t_isTrue (d := d) (by omega) hq hS hE (r := p) ⟨h0, by omega⟩ hD
    have hd : sg (Ex pro (d + 6)) mX11_said 2000 21 [some (rV 32), some (iV k), some (iV c), some (iV p)] [] w = if bI1 (f A p) = 0 then
    (some (.inl (21, [some (rV 32), some (iV k), some (iV c), some (iV (p + 1))], [], w1)))
   else
   if c = k then
    (some (.inr (some (iV p), w1)))
   else
   some (.inl (21, [some (rV 32), some (iV k), some (iV (c + 1)), some (iV (p + 1))], [], w1)) := by
      rw [eX11_said_21, if_pos k9, g3, if_pos hS.1.1.1, hS.2.1.1, if_pos (by omega), if_pos k9, if_pos k9, g5, if_pos hE.1.1.1, a1]
      simp only [bI]
      rw [w32_eq (x := p + 1) (by omega) (by omega), w32_eq (x := c + 1) (by omega) (by omega)]
    have k91 : kd w1 32 = 9 := by rw [a2.kdE]; exact k9
    have g31 : gv w1 32 3 = q := by rw [a2.gvE (by omega)]; exact g3
    have g51 : gv w1 32 5 = s := by rw [a2.gvE (by omega)]; exact g5
    have S1 := hS.mf a2 (fun r j r0 r1 => by omega)
    have E1 := hE.mf a2 (fun j j0 j1 => by omega) (fun r j r0 r1 => by omega)
    unfold sdF
    cases hf : f A p
    · rw [if_neg (by simp)]
      obtain ⟨w', b1, b2⟩ := l_pSaid hq hs hD i (p + 1) c w1 k91 g31 g51 S1 E1 (by omega) (by omega) c0 (by omega)
      refine ⟨w', Rn.cut ?_ b1, a2.tr b2⟩
      rw [hd, hf, if_pos (by simp)]
    · rw [if_pos rfl]
      by_cases y : c = k
      · rw [if_pos y]
        refine ⟨w1, Rn.ret ?_, a2⟩
        rw [hd, hf, if_neg (by simp), if_pos y]
      · rw [if_neg y]
        obtain ⟨w', b1, b2⟩ := l_pSaid hq hs hD i (p + 1) (c + 1) w1 k91 g31 g51 S1 E1 (by omega) (by omega) (by omega) (by omega)
        refine ⟨w', Rn.cut ?_ b1, a2.tr b2⟩
        rw [hd, hf, if_neg (by simp), if_neg y]
theorem p_said (h : NowI w 32 q A) (hq : q = 36 ∨ q = 53) (h5 : gv w 32 5 = s ∧ (s = 70 ∨ s = 75)) {b : Bool} (hK : SeK w s A.1 b f) (k : Int) : ∃ w', Ex pro (d + 7) 145 w [rV 32, iV k] = some (some (iV (saidF A b f k)), w') ∧ Mf w w' (fun r _ => r = s + 4) := by
  obtain ⟨k9, g3, hS⟩ := h
  obtain ⟨c, L, hE, e0, e1⟩ := hK
  have A4 := hS.2.2.1
  have hd : sg (Ex pro (d + 6)) mX11_said 2000 0 [some (rV 32), some (iV k), none, none] [] w = if c = 0 then (some (.inr (some (iV (-1)), w))) else if k < -1 then (some (.inr (some (iV (-1)), w))) else some (.inl (21, [some (rV 32), some (iV k), some (iV 0), some (iV 0)], [], w)) := by
    rw [eX11_said_0, if_pos k9, h5.1, if_pos hE.1.1.1, hE.2.2.2.1]
  unfold saidF
  cases b with
  | false =>
    refine ⟨w, xX11_said (Rn.ret ?_), Mf.refl _ _⟩
    rw [hd, if_pos (e0 rfl)]
    rfl
  | true =>
    obtain ⟨y1, y2⟩ := e1 rfl
    show ∃ w', Ex pro (d + 7) 145 w [rV 32, iV k] = some (some (iV (sdF (f A) k A.1.toNat 0 0)), w') ∧ _
    by_cases z : k < -1
    · rw [sdF_neg z _ _ _ (Int.le_refl _)]
      refine ⟨w, xX11_said (Rn.ret ?_), Mf.refl _ _⟩
      rw [hd, if_neg (by omega), if_pos z]
    · obtain ⟨w', b1, b2⟩ := l_pSaid (d := d) (k := k) hq h5.2 y2 A.1.toNat 0 0 w k9 g3 h5.1 hS hE (by omega) (by omega) (by omega) (by omega)
      refine ⟨w', xX11_said (Rn.cut ?_ b1), b2⟩
      rw [hd, if_neg (by omega), if_neg z]
end PSd
