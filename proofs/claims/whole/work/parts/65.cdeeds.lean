/-! ===== the class's deeds, called ===== -/
def CD (w : sW) (q : Int) (A : Rm) (hk : Int) (H : Int → Rm) : Prop := NowI w 32 q A ∧ (q = 36 ∨ q = 53) ∧ gv w 32 8 = 85 ∧ HsI w hk H ∧ BkO w ∧ BkS w ∧ 108 ≤ nx w
/-- the cells that a deed of the class may change -/
abbrev dC (w : sW) (q k r j : Int) : Prop := (q ≤ r ∧ r ≤ q + 16) ∨ (r = 85 ∧ (j = 1 ∨ j = 2)) ∨ (r = 86 ∧ j = k) ∨ (gv w 86 k ≠ 0 ∧ gv w 86 k ≤ r ∧ r ≤ gv w 86 k + 16)
theorem BkO.ag {w w' : sW} {P : Int → Int → Prop} (h : BkO w) (g : Ag w w' P) (hn : 108 ≤ nx w) (hp : ∀ r j, r = 86 ∨ r = 87 ∨ r = 88 → ¬ P r j) : BkO w' := by
  have o : ∀ i, 0 ≤ i → i < 12 → ow w' i = ow w i := fun i i0 i1 => ow_ag g hn ⟨i0, i1⟩ (Or.inl (hp _ _ (by omega))) (fun j => ⟨hp _ _ (by omega), hp _ _ (by omega)⟩)
  have n := g.1
  refine ⟨fun i i0 i1 => ?_, fun i j i0 i1 j0 j1 ij => ?_⟩
  · rw [o i i0 i1]
    have := h.1 i i0 i1
    omega
  · rw [o i i0 i1, o j j0 j1]
    exact h.2 i j i0 i1 j0 j1 ij
theorem BkS.ag {w w' : sW} {P : Int → Int → Prop} (h : BkS w) (b : BkO w) (g : Ag w w' P) (hn : 108 ≤ nx w) (hp : ∀ r j, r = 86 ∨ r = 87 ∨ r = 88 ∨ 108 ≤ r → ¬ P r j) : BkS w' := by
  have o : ∀ i, 0 ≤ i → i < 12 → ow w' i = ow w i := fun i i0 i1 => ow_ag g hn ⟨i0, i1⟩ (Or.inl (hp _ _ (by omega))) (fun j => ⟨hp _ _ (by omega), hp _ _ (by omega)⟩)
  refine ⟨fun i i0 i1 => ?_, fun i i0 i1 => ?_⟩
  · rw [o i i0 (by omega)]
    have z := b.1 i i0 (by omega)
    have zz : sz i = 16 := if_pos (by omega)
    rcases h.1 i i0 i1 with y | y
    · exact Or.inl y
    · have y2 := y.2.2.2.2.2.2
      exact Or.inr (y.eq (g.eqO (by omega) (by omega) (fun r j r0 r1 => hp r j (by omega))))
  · rw [o i (by omega) i1]
    have z := b.1 i (by omega) i1
    have zz : sz i = 4 := if_neg (by omega)
    rcases h.2 i i0 i1 with y | y
    · exact Or.inl y
    · have y2 := y.2.2.2.2.2
      exact Or.inr (y.eq (g.eqO (by omega) (by omega) (fun r j r0 r1 => hp r j (by omega))))
theorem HsI.ag {w w' : sW} {P : Int → Int → Prop} {hk : Int} {H : Int → Rm} (h : HsI w hk H) (b : BkO w) (g : Ag w w' P) (hn : 108 ≤ nx w) (hp : ∀ r j, r = 85 ∨ r = 86 ∨ 108 ≤ r → ¬ P r j) : HsI w' hk H := by
  obtain ⟨⟨k1, k2, k3, k4⟩, g2, g3, ol, g4, g5, g6⟩ := h
  refine ⟨⟨by rw [g.kdE (by omega) (by omega)]; exact k1, by rw [g.gvE (by omega) (by omega) (hp _ _ (by omega))]; exact k2, by rw [g.kdE (by omega) (by omega)]; exact k3, by rw [g.lnE (by omega) (by omega)]; exact k4⟩, by rw [g.gvE (by omega) (by omega) (hp _ _ (by omega))]; exact g2, g3, ol, by rw [g.gvE (by omega) (by omega) (hp _ _ (by omega))]; exact g4, g5, fun i i0 i1 => ?_⟩
  have y := g6 i i0 i1
  have bs := b.1 ((ol + i) % 8) (by omega) (by omega)
  have e2 : ow w ((ol + i) % 8) = gv w 86 ((ol + i) % 8) := ow8 w (by omega)
  have s2 : sz ((ol + i) % 8) = 16 := if_pos (by omega)
  rw [g.gvE (by omega) (by omega) (hp _ _ (by omega))]
  exact ⟨y.1, y.2.eq (g.eqO (by omega) (by omega) (fun r j r1 r2 => hp r j (by omega)))⟩
theorem NowI.ag {w w' : sW} {P : Int → Int → Prop} {q : Int} {A : Rm} (h : NowI w 32 q A) (g : Ag w w' P) (hn : 108 ≤ nx w) (q36 : q = 36 ∨ q = 53) (hp : ¬ P 32 3) (hp2 : ∀ r j, q ≤ r → r ≤ q + 16 → ¬ P r j) : NowI w' 32 q A := ⟨by rw [g.kdE (by omega) (by omega)]; exact h.1, by rw [g.gvE (by omega) (by omega) hp]; exact h.2.1, h.2.2.eq (g.eqO (by omega) (by omega) hp2)⟩
section CDs
variable {d : Nat} {w : sW} {q : Int} {A : Rm} {hk : Int} {H : Int → Rm}
theorem p_does (h : CD w q A hk H) {e r i n : Int} (hd : dOk A e r i n) (hn32 : in32 n) : ∃ w' k, Ex pro (d + 5) 124 w [rV 32, rV (e + 4), iV (cA e r i), iV (cB e i n), iV (cC e n)] = some (some (iV (whyM A e r i n)), w') ∧ CD w' q (if whyM A e r i n = 0 then actM A e r i n else A) (if whyM A e r i n = 0 then pushK hk else hk) (if whyM A e r i n = 0 then pushH hk H A else H) ∧ (0 ≤ k ∧ k < 8) ∧ Ag w w' (dC w q k) ∧ uc w' ≤ uc w + 17 ∧ us w' ≤ us w + 3240 := by
  obtain ⟨h1, h2, h3, h4, h5, h6, h7⟩ := h
  obtain ⟨g1, g2, g3, g4, g5, g6, g7⟩ := hd
  have hb : in32 (cB e i n) := by unfold cB; split <;> assumption
  have hc : in32 (cC e n) := by
    unfold cC
    split
    · unfold in32; omega
    · exact hn32
  have hy := m_whyNot (d := d + 1) h1.2.2 (e := e + 4) (a := cA e r i) (b := cB e i n) (c := cC e n) (by omega) hb hc
  have hy' : Ex pro (d + 4) 86 w [rV q, rV (e + 4), iV (cA e r i), iV (cB e i n), iV (cC e n)] = some (some (iV (whyM A e r i n)), w) := hy
  by_cases c : whyM A e r i n = 0
  · rw [if_pos c, if_pos c, if_pos c]
    obtain ⟨w1, k, a1, a2, a3, a4, a5, a6, a7, a8⟩ := h_keep (d := d + 1) h4 h5 h6 h1.2.2 h2 h7
    have b5 := h5.1 k a2.1 (by omega)
    have e5 : ow w k = gv w 86 k := ow8 w a2.2
    have n1 : NowI w1 32 q A := h1.ag a6 h7 h2 (by omega) (fun r j r0 r1 => by omega)
    obtain ⟨w2, b1, b2, b3⟩ := m_act (d := d) n1.2.2 (e := e + 4) (a := cA e r i) (b := cB e i n) (c := cC e n) (by omega) c (fun z => by
      have z0 : e = 0 := by omega
      subst z0
      exact g4 (by omega)) (fun z => by
      have z0 : e = 6 := by omega
      subst z0
      exact g6 rfl) (fun z => by
      have z0 : e = 4 := by omega
      subst z0
      exact (g3 (by omega)).2) (fun z => by
      have z0 : e = 5 := by omega
      subst z0
      exact (g3 (by omega)).2)
    have hn1 : 108 ≤ nx w1 := by have := a6.1; omega
    have k3 := h4.1.1
    have p3 : gv w1 32 3 = q := n1.2.1
    have p8 : gv w1 32 8 = 85 := by rw [a6.gvE (by omega) (by omega) (by omega)]; exact h3
    refine ⟨w2, k, xX11_does (Rn.ret ?_), ⟨⟨by rw [b2.kdE]; exact n1.1, by rw [b2.2.2 _ _ (by omega)]; exact n1.2.1, b3⟩, h2, by rw [b2.2.2 _ _ (by omega)]; exact p8, a3.ag a4 b2.ag hn1 (fun r j hr => by omega), a4.ag b2.ag hn1 (fun r j hr => by omega), a5.ag a4 b2.ag hn1 (fun r j hr => by omega), by rw [b2.nxE]; exact hn1⟩, a2, (a6.trans b2.ag).mono (fun r j r0 r1 z => ?_), by rw [b2.ucE]; exact a7, by rw [b2.usE]; exact a8⟩
    · rw [eX11_does_0, if_pos h1.1, if_pos h1.k8, h1.2.1, hy', c]
      simp only [bI]
      rw [if_pos trivial, if_pos h1.1, if_pos h1.1, h3, if_pos k3, h1.2.1, a1]
      simp only [bN]
      rw [if_pos n1.1, if_pos n1.k8, p3, b1]
    · rcases z with z | z
      · exact Or.inr z
      · exact Or.inl z
  · rw [if_neg c, if_neg c, if_neg c]
    refine ⟨w, 0, xX11_does (Rn.ret ?_), ⟨h1, h2, h3, h4, h5, h6, h7⟩, by omega, Ag.refl _ _, by omega, by omega⟩
    rw [eX11_does_0, if_pos h1.1, if_pos h1.k8, h1.2.1, hy']
    simp only [bI]
    rw [if_neg c]
/-- what a called deed of the class does -/
def cRes (w : sW) (q : Int) (A : Rm) (hk : Int) (H : Int → Rm) (V : Prop) [Decidable V] (e r i n : Int) (x : Option (Option sV × sW)) : Prop := ∃ w' k, x = some (some (iV (if V then whyM A e r i n else -1)), w') ∧ CD w' q (nxA A V e r i n) (nxK A V e r i n hk) (nxH A V e r i n hk H) ∧ (0 ≤ k ∧ k < 8) ∧ Ag w w' (dC w q k) ∧ uc w' ≤ uc w + 17 ∧ us w' ≤ us w + 3240
theorem cRes_no (h : CD w q A hk H) {V : Prop} [Decidable V] {e r i n : Int} {x : Option (Option sV × sW)} (v : ¬ V) (hx : x = some (some (iV (-1)), w)) : cRes w q A hk H V e r i n x := by
  unfold cRes nxA nxK nxH
  rw [if_neg v, if_neg (fun z => v z.1), if_neg (fun z => v z.1), if_neg (fun z => v z.1)]
  exact ⟨w, 0, hx, h, by omega, Ag.refl _ _, by omega, by omega⟩
theorem cRes_yes (h : CD w q A hk H) {V : Prop} [Decidable V] {e r i n : Int} {x : Option (Option sV × sW)} (v : V) (hd : dOk A e r i n) (hn : in32 n) (hx : ∀ y w', Ex pro (d + 5) 124 w [rV 32, rV (e + 4), iV (cA e r i), iV (cB e i n), iV (cC e n)] = some (some (iV y), w') → x = some (some (iV y), w')) : cRes w q A hk H V e r i n x := by
  obtain ⟨w', k, a1, a2, a3, a4, a5, a6⟩ := p_does (d := d) h hd hn
  unfold cRes nxA nxK nxH
  refine ⟨w', k, ?_, ?_, a3, a4, a5, a6⟩
  · rw [if_pos v]; exact hx _ _ a1
  · by_cases c : whyM A e r i n = 0
    · rw [if_pos c, if_pos c, if_pos c] at a2
      rw [if_pos ⟨v, c⟩, if_pos ⟨v, c⟩, if_pos ⟨v, c⟩]
      exact a2
    · rw [if_neg c, if_neg c, if_neg c] at a2
      rw [if_neg (fun z => c z.2), if_neg (fun z => c z.2), if_neg (fun z => c z.2)]
      exact a2
theorem p_put (h : CD w q A hk H) {r i b : Int} (hi : in32 i) : cRes w q A hk H (puV A r b) 0 r i b (Ex pro (d + 6) 123 w [rV 32, iV r, iV i, iV b]) := by
  have h1 := h.1
  by_cases v : puV A r b
  · refine cRes_yes (d := d) h v (dOk_put hi 0 (by omega) v) (by unfold in32; omega) (fun y w' e => xX11_put (Rn.ret ?_))
    rw [eX11_put_0, if_pos h1.1, if_pos h1.k8, h1.yes v.1, if_neg (h1.nz v.1), p_isBit]
    simp only [bI, ite10]
    rw [if_pos v.2, if_pos h1.1]
    have e' : Ex pro (d + 5) 124 w [rV 32, rV 4, iV r, iV i, iV b] = some (some (iV y), w') := e
    rw [e']
  · refine cRes_no h v (xX11_put (Rn.ret ?_))
    rw [eX11_put_0, if_pos h1.1, if_pos h1.k8]
    by_cases c : isR A r
    · rw [h1.yes c, if_neg (h1.nz c), p_isBit]
      simp only [bI, ite10]
      rw [if_neg (fun z => v ⟨c, z⟩)]
    · rw [h1.no c, if_pos rfl]
theorem p_set (h : CD w q A hk H) {r i b : Int} (hi : in32 i) : cRes w q A hk H (puV A r b) 1 r i b (Ex pro (d + 6) 125 w [rV 32, iV r, iV i, iV b]) := by
  have h1 := h.1
  by_cases v : puV A r b
  · refine cRes_yes (d := d) h v (dOk_put hi 1 (by omega) v) (by unfold in32; omega) (fun y w' e => xX11_set (Rn.ret ?_))
    rw [eX11_set_0, if_pos h1.1, if_pos h1.k8, h1.yes v.1, if_neg (h1.nz v.1), p_isBit]
    simp only [bI, ite10]
    rw [if_pos v.2, if_pos h1.1]
    have e' : Ex pro (d + 5) 124 w [rV 32, rV 5, iV r, iV i, iV b] = some (some (iV y), w') := e
    rw [e']
  · refine cRes_no h v (xX11_set (Rn.ret ?_))
    rw [eX11_set_0, if_pos h1.1, if_pos h1.k8]
    by_cases c : isR A r
    · rw [h1.yes c, if_neg (h1.nz c), p_isBit]
      simp only [bI, ite10]
      rw [if_neg (fun z => v ⟨c, z⟩)]
    · rw [h1.no c, if_pos rfl]
theorem p_cut (h : CD w q A hk H) {r i n : Int} (hi : in32 i) : cRes w q A hk H (cuV A r n) 2 r i n (Ex pro (d + 6) 126 w [rV 32, iV r, iV i, iV n]) := by
  have h1 := h.1
  by_cases v : cuV A r n
  · refine cRes_yes (d := d) h v (dOk_cut hi 2 (by omega) v) (by unfold in32; omega) (fun y w' e => xX11_cut (Rn.ret ?_))
    have e' : Ex pro (d + 5) 124 w [rV 32, rV 6, iV r, iV i, iV n] = some (some (iV y), w') := e
    rw [eX11_cut_0, if_pos h1.1, if_pos h1.k8, h1.yes v.1, if_neg (h1.nz v.1), if_neg (by omega), if_neg (by omega), if_pos h1.1, e']
    simp only [bI]
  · refine cRes_no h v (xX11_cut (Rn.ret ?_))
    rw [eX11_cut_0, if_pos h1.1, if_pos h1.k8]
    by_cases c : isR A r
    · rw [h1.yes c, if_neg (h1.nz c)]
      by_cases c1 : n < 1
      · rw [if_pos c1]
      · rw [if_neg c1, if_pos (by have := fun z => v ⟨c, by omega, z⟩; omega)]
    · rw [h1.no c, if_pos rfl]
theorem p_turn (h : CD w q A hk H) {r i n : Int} (hi : in32 i) : cRes w q A hk H (cuV A r n) 3 r i n (Ex pro (d + 6) 127 w [rV 32, iV r, iV i, iV n]) := by
  have h1 := h.1
  by_cases v : cuV A r n
  · refine cRes_yes (d := d) h v (dOk_cut hi 3 (by omega) v) (by unfold in32; omega) (fun y w' e => xX11_turn (Rn.ret ?_))
    have e' : Ex pro (d + 5) 124 w [rV 32, rV 7, iV r, iV i, iV n] = some (some (iV y), w') := e
    rw [eX11_turn_0, if_pos h1.1, if_pos h1.k8, h1.yes v.1, if_neg (h1.nz v.1), if_neg (by omega), if_neg (by omega), if_pos h1.1, e']
    simp only [bI]
  · refine cRes_no h v (xX11_turn (Rn.ret ?_))
    rw [eX11_turn_0, if_pos h1.1, if_pos h1.k8]
    by_cases c : isR A r
    · rw [h1.yes c, if_neg (h1.nz c)]
      by_cases c1 : n < 1
      · rw [if_pos c1]
      · rw [if_neg c1, if_pos (by have := fun z => v ⟨c, by omega, z⟩; omega)]
    · rw [h1.no c, if_pos rfl]
theorem p_join (h : CD w q A hk H) {r s : Int} (hs : in32 s) : cRes w q A hk H (twV A r s) 4 r 0 s (Ex pro (d + 6) 129 w [rV 32, iV r, iV s]) := by
  have h1 := h.1
  by_cases v : twV A r s
  · refine cRes_yes (d := d) h v (dOk_two (by unfold in32; omega) 4 (by omega) v) hs (fun y w' e => xX11_join (Rn.ret ?_))
    have e' : Ex pro (d + 5) 124 w [rV 32, rV 8, iV r, iV s, iV 0] = some (some (iV y), w') := e
    rw [eX11_join_0, if_pos h1.1, if_pos h1.k8, h1.yes v.1, if_neg (h1.nz v.1), if_pos h1.1, if_pos h1.k8, h1.yes v.2.1, if_neg (h1.nz v.2.1), if_neg v.2.2, if_pos h1.1, e']
    simp only [bI]
  · refine cRes_no h v (xX11_join (Rn.ret ?_))
    rw [eX11_join_0, if_pos h1.1, if_pos h1.k8]
    by_cases c : isR A r
    · rw [h1.yes c, if_neg (h1.nz c), if_pos h1.1, if_pos h1.k8]
      by_cases c1 : isR A s
      · rw [h1.yes c1, if_neg (h1.nz c1), if_pos (by have := fun z => v ⟨c, c1, z⟩; omega)]
      · rw [h1.no c1, if_pos rfl]
    · rw [h1.no c, if_pos rfl]
theorem p_split (h : CD w q A hk H) {r i s : Int} (hi : in32 i) (hs : in32 s) : cRes w q A hk H (twV A r s) 5 r i s (Ex pro (d + 6) 130 w [rV 32, iV r, iV i, iV s]) := by
  have h1 := h.1
  by_cases v : twV A r s
  · refine cRes_yes (d := d) h v (dOk_two hi 5 (by omega) v) hs (fun y w' e => xX11_split (Rn.ret ?_))
    have e' : Ex pro (d + 5) 124 w [rV 32, rV 9, iV r, iV i, iV s] = some (some (iV y), w') := e
    rw [eX11_split_0, if_pos h1.1, if_pos h1.k8, h1.yes v.1, if_neg (h1.nz v.1), if_pos h1.1, if_pos h1.k8, h1.yes v.2.1, if_neg (h1.nz v.2.1), if_neg v.2.2, if_pos h1.1, e']
    simp only [bI]
  · refine cRes_no h v (xX11_split (Rn.ret ?_))
    rw [eX11_split_0, if_pos h1.1, if_pos h1.k8]
    by_cases c : isR A r
    · rw [h1.yes c, if_neg (h1.nz c), if_pos h1.1, if_pos h1.k8]
      by_cases c1 : isR A s
      · rw [h1.yes c1, if_neg (h1.nz c1), if_pos (by have := fun z => v ⟨c, c1, z⟩; omega)]
      · rw [h1.no c1, if_pos rfl]
    · rw [h1.no c, if_pos rfl]
theorem p_type (h : CD w q A hk H) {i c : Int} (hi : in32 i) : cRes w q A hk H (0 ≤ c ∧ c < 8) 6 0 i c (Ex pro (d + 6) 138 w [rV 32, iV i, iV c]) := by
  have h1 := h.1
  by_cases v : 0 ≤ c ∧ c < 8
  · refine cRes_yes (d := d) h v (dOk_type hi v) (by unfold in32; omega) (fun y w' e => xX11_type (Rn.ret ?_))
    have e' : Ex pro (d + 5) 124 w [rV 32, rV 10, iV i, iV c, iV 0] = some (some (iV y), w') := e
    rw [eX11_type_0, p_isLetter]
    simp only [bI, ite10]
    rw [if_pos v, if_pos h1.1, e']
  · refine cRes_no h v (xX11_type (Rn.ret ?_))
    rw [eX11_type_0, p_isLetter]
    simp only [bI, ite10]
    rw [if_neg v]
theorem p_erase (h : CD w q A hk H) {i n : Int} (hi : in32 i) : cRes w q A hk H (1 ≤ n ∧ n ≤ 200) 7 0 i n (Ex pro (d + 6) 139 w [rV 32, iV i, iV n]) := by
  have h1 := h.1
  by_cases v : 1 ≤ n ∧ n ≤ 200
  · refine cRes_yes (d := d) h v (dOk_erase hi v) (by unfold in32; omega) (fun y w' e => xX11_erase (Rn.ret ?_))
    have e' : Ex pro (d + 5) 124 w [rV 32, rV 11, iV i, iV n, iV 0] = some (some (iV y), w') := e
    rw [eX11_erase_0, if_neg (by omega), if_neg (by omega), if_pos h1.1, e']
    simp only [bI]
  · refine cRes_no h v (xX11_erase (Rn.ret ?_))
    rw [eX11_erase_0]
    by_cases c : n < 1
    · rw [if_pos c]
    · rw [if_neg c, if_pos (by omega)]
theorem p_undo (h : CD w q A hk H) : ∃ w', Ex pro (d + 4) 140 w [rV 32] = some (some (iV (if hk = 0 then -1 else hk - 1)), w') ∧ CD w' q (if hk = 0 then A else H (hk - 1)) (if hk = 0 then 0 else hk - 1) H ∧ Ag w w' (fun r j => (r = 85 ∧ j = 2) ∨ (q ≤ r ∧ r ≤ q + 16)) ∧ uc w' = uc w ∧ us w' = us w := by
  obtain ⟨h1, h2, h3, h4, h5, h6, h7⟩ := h
  have b := h_bring (d := d) h4 h5 h1.2.2.1 h2 h7
  have k3 := h4.1.1
  by_cases c : hk = 0
  · rw [if_pos c, if_pos c, if_pos c]
    refine ⟨w, xX11_undo (Rn.ret ?_), ⟨h1, h2, h3, ?_, h5, h6, h7⟩, Ag.refl _ _, rfl, rfl⟩
    · rw [eX11_undo_0, if_pos h1.1, if_pos h1.1, h3, if_pos k3, h1.2.1, b.1 c]
      simp only [bI]
      rw [if_pos trivial]
    · rw [← c]; exact h4
  · rw [if_neg c, if_neg c, if_neg c]
    obtain ⟨w', a1, a2, a3, a4, a5, a6, a7⟩ := b.2 c
    clear b
    have p8 : gv w' 32 8 = 85 := by rw [a4.gvE (by omega) (by omega) (by omega)]; exact h3
    have p9 : kd w' 32 = 9 := by rw [a4.kdE (by omega) (by omega)]; exact h1.1
    refine ⟨w', xX11_undo (Rn.ret ?_), ⟨⟨p9, by rw [a4.gvE (by omega) (by omega) (by omega)]; exact h1.2.1, a3⟩, h2, p8, a2, h5.ag a4 h7 (fun r j hr => by omega), h6.ag h5 a4 h7 (fun r j hr => by omega), by omega⟩, a4, a6, a7⟩
    rw [eX11_undo_0, if_pos h1.1, if_pos h1.1, h3, if_pos k3, h1.2.1, a1]
    simp only [bI]
    rw [if_neg (by decide), if_pos p9, p8, if_pos a2.1.1, a2.2.1]
end CDs
