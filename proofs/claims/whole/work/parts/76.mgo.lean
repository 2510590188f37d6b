/-! ===== the reference's tokens ===== -/
/-- the text of the reference -/
def MTx (w : sW) (m : Int) (t : Int → Int) (n most : Int) : Prop := (kd w m = 10 ∧ gv w m 1 = m + 1 ∧ gv w m 3 = n ∧ gv w m 4 = most) ∧ (kd w (m + 1) = 20 ∧ ln w (m + 1) = 940) ∧ (0 ≤ n ∧ n ≤ 940) ∧ (0 ≤ most ∧ most ≤ 940) ∧ ∀ i, 0 ≤ i → i < 940 → gv w (m + 1) i = t i ∧ 0 ≤ t i ∧ t i ≤ 255
theorem MTx.mf {w w' : sW} {m : Int} {t : Int → Int} {n most : Int} {P : Int → Int → Prop} (h : MTx w m t n most) (g : Mf w w' P) (h1 : ¬ P m 1 ∧ ¬ P m 3 ∧ ¬ P m 4) (h2 : ∀ j, ¬ P (m + 1) j) : MTx w' m t n most := by
  obtain ⟨⟨a1, a2, a3, a4⟩, ⟨a5, a6⟩, a7, a8, a9⟩ := h
  refine ⟨⟨by rw [g.kdE]; exact a1, by rw [g.gvE h1.1]; exact a2, by rw [g.gvE h1.2.1]; exact a3, by rw [g.gvE h1.2.2]; exact a4⟩, ⟨by rw [g.kdE]; exact a5, by rw [g.lnE]; exact a6⟩, a7, a8, fun i i0 i1 => ?_⟩
  rw [g.gvE (h2 i)]
  exact a9 i i0 i1
/-- the reference stands at what comes from p on -/
def RdM (w : sW) (m : Int) (t : Int → Int) (n most p : Int) : Prop := MTx w m t n most ∧ gv w m 7 = tkK t n most p ∧ gv w m 6 = tkP t n most p ∧ (2 ≤ tkK t n most p → gv w m 5 = tkT t n most p) ∧ (tkK t n most p = 2 → gv w m 12 = tk27 t n most p) ∧ (tkK t n most p = 3 → gv w m 8 = tkN t n most p) ∧ (tkK t n most p = 4 → gv w m 9 = tkS t n most p)
abbrev rdJ (j : Int) : Prop := 1 ≤ j ∧ j ≤ 12 ∧ j ≠ 2 ∧ j ≠ 10 ∧ j ≠ 11
theorem RdM.mf {w w' : sW} {m : Int} {t : Int → Int} {n most p : Int} {P : Int → Int → Prop} (h : RdM w m t n most p) (g : Mf w w' P) (h1 : ∀ j, rdJ j → ¬ P m j) (h2 : ∀ j, ¬ P (m + 1) j) : RdM w' m t n most p := by
  obtain ⟨a1, a2, a3, a4, a5, a6, a7⟩ := h
  refine ⟨a1.mf g ⟨h1 1 (by omega), h1 3 (by omega), h1 4 (by omega)⟩ h2, ?_, ?_, ?_, ?_, ?_, ?_⟩
  · rw [g.gvE (h1 7 (by omega))]; exact a2
  · rw [g.gvE (h1 6 (by omega))]; exact a3
  · rw [g.gvE (h1 5 (by omega))]; exact a4
  · rw [g.gvE (h1 12 (by omega))]; exact a5
  · rw [g.gvE (h1 8 (by omega))]; exact a6
  · rw [g.gvE (h1 9 (by omega))]; exact a7
theorem ws_stop {t : Int → Int} {L : Int} : ∀ (f : Nat) (p : Int), (p + f = L ∨ (f = 0 ∧ L ≤ p)) → (∀ i, p ≤ i → i < wsF t L f p → t i = 32 ∨ t i = 10) ∧ (wsF t L f p < L → ¬ (t (wsF t L f p) = 32 ∨ t (wsF t L f p) = 10))
  | 0, p, h => ⟨fun i i0 i1 => by simp only [wsF] at i1; omega, fun z => by simp only [wsF] at z; omega⟩
  | f + 1, p, h => by
    by_cases c : p < L ∧ (t p = 32 ∨ t p = 10)
    · have ih := ws_stop (t := t) (L := L) f (p + 1) (by omega)
      simp only [wsF]
      rw [if_pos c]
      refine ⟨fun i i0 i1 => ?_, ih.2⟩
      by_cases z : i = p
      · rw [z]; exact c.2
      · exact ih.1 i (by omega) i1
    · simp only [wsF]
      rw [if_neg c]
      exact ⟨fun i i0 i1 => by omega, fun z y => c ⟨by omega, y⟩⟩
/-- the reference skips to the end of the text, the class to the limit -/
theorem ws_two {t : Int → Int} {n most p : Int} (h0 : p ≤ n) : (tkA t n most p < lim n most → wsF t n (n - p).toNat p = tkA t n most p) ∧ (lim n most ≤ tkA t n most p → p ≤ lim n most → lim n most ≤ wsF t n (n - p).toNat p) := by
  have a := ws_stop (t := t) (L := n) (n - p).toNat p (by omega)
  have b := ws_stop (t := t) (L := lim n most) (lim n most - p).toNat p (by omega)
  have ar := wsF_rg t n (n - p).toNat p
  have br : p ≤ tkA t n most p ∧ tkA t n most p ≤ p + (lim n most - p).toNat := wsF_rg t (lim n most) (lim n most - p).toNat p
  have hL : lim n most ≤ n := by unfold lim; split <;> omega
  have b1 : ∀ i, p ≤ i → i < tkA t n most p → t i = 32 ∨ t i = 10 := b.1
  have b2 : tkA t n most p < lim n most → ¬ (t (tkA t n most p) = 32 ∨ t (tkA t n most p) = 10) := b.2
  refine ⟨fun z => ?_, fun z z2 => ?_⟩
  · by_cases c : wsF t n (n - p).toNat p < tkA t n most p
    · exact absurd (b1 _ ar.1 c) (a.2 (by omega))
    · by_cases c2 : tkA t n most p < wsF t n (n - p).toNat p
      · exact absurd (a.1 _ br.1 c2) (b2 z)
      · omega
  · by_cases c : wsF t n (n - p).toNat p < lim n most
    · exact absurd (b1 _ ar.1 (by omega)) (a.2 (by omega))
    · omega
section GO
variable {d : Nat} {w : sW} {m : Int} {C : sC} {t : Int → Int} {n most p : Int}
theorem o_isLetter (c : Int) : Ex pro (d + 1) 158 w [iV c] = some (some (iV (if isA c then 1 else 0)), w) := by
  refine xX12_isLetter (Rn.ret ?_)
  rw [eX12_isLetter_0]
  unfold isA
  grind
theorem o_isDigit (c : Int) : Ex pro (d + 1) 157 w [iV c] = some (some (iV (if isD c then 1 else 0)), w) := by
  refine xX12_isDigit (Rn.ret ?_)
  rw [eX12_isDigit_0]
  unfold isD
  grind
theorem o_tapeAt (h : MTx w m t n most) {q : Int} (h0 : 0 ≤ q) : Ex pro (d + 1) 156 w [rV m, iV q] = some (some (iV (if q < n then t q else 0)), w) := by
  obtain ⟨⟨a1, a2, a3, a4⟩, ⟨a5, a6⟩, a7, a8, a9⟩ := h
  refine xX12_tapeAt (Rn.ret ?_)
  rw [eX12_tapeAt_0, if_pos a1, a3]
  by_cases c : q < n
  · rw [if_pos c, if_pos c, if_pos a1, a2, if_pos ⟨a5, h0, by omega⟩, (a9 q h0 (by omega)).1]
  · rw [if_neg c, if_neg c]
theorem l_mws : ∀ (f : Nat) (p : Int) (w : sW), p + f = n → 0 ≤ p → MTx w m t n most → gv w m 5 = p → ∃ w', (∀ res, Rn C mX12_go (0, [some (rV m), none, none, none, none], [], w') res → Rn C mX12_go (0, [some (rV m), none, none, none, none], [], w) res) ∧ MTx w' m t n most ∧ gv w' m 5 = wsF t n f p ∧ Mf w w' (fun r j => r = m ∧ j = 5)
  | 0, p, w, hf, h0, hT, h5 => ⟨w, fun _ => id, hT, h5, Mf.refl _ _⟩
  | f + 1, p, w, hf, h0, hT, h5 => by
    have k := hT.1.1
    have n9 := hT.2.2.1
    have tp := hT.2.2.2.2 p (by omega) (by omega)
    have gd : kd w (m + 1) = 20 ∧ 0 ≤ p ∧ p < ln w (m + 1) := ⟨hT.2.1.1, by omega, by rw [hT.2.1.2]; omega⟩
    by_cases c : t p = 32 ∨ t p = 10
    · have mf := Mf.svI w m 5 (p + 1)
      obtain ⟨w', b1, b2, b3, b4⟩ := l_mws f (p + 1) (sv w m 5 (p + 1)) (by omega) (by omega) (hT.mf mf (by omega) (fun j => by omega)) (gvSS _ _ _ _)
      rw [show wsF t n (f + 1) p = wsF t n f (p + 1) by simp only [wsF]; rw [if_pos ⟨by omega, c⟩]]
      refine ⟨w', fun res r => Rn.cut ?_ (b1 res r), b2, b3, mf.tr b4⟩
      rw [eX12_go_0, if_pos k, if_pos k, h5, hT.1.2.2.1, if_pos (by omega), if_pos k, if_pos k, hT.1.2.1, if_pos gd, tp.1]
      by_cases c2 : t p = 32
      · rw [if_pos c2, if_pos k, if_pos k, wl_eq, w32_eq (by omega) (by omega)]
      · rw [if_neg c2, if_pos k, if_pos k, if_pos gd, if_pos (by omega), if_pos k, if_pos k, wl_eq, w32_eq (by omega) (by omega)]
    · rw [show wsF t n (f + 1) p = p by simp only [wsF]; rw [if_neg (fun z => c z.2)]]
      exact ⟨w, fun _ => id, hT, h5, Mf.refl _ _⟩
/-- letters and digits from a on, read up to q -/
def ScnM (w : sW) (m : Int) (t : Int → Int) (a q : Int) : Prop := (gv w m 5 = q ∧ gv w m 6 = a) ∧ (cL t a (q - a).toNat = q - a ∧ q - a ≤ 7 → gv w m 12 = cod 27 t a (q - a).toNat) ∧ (cL t a (q - a).toNat = 0 ∧ q - a ≤ 3 → gv w m 8 = nm10 t a (q - a).toNat)
theorem ScnM.next {w w' : sW} {a q : Int} (h : ScnM w m t a q) (ha : a ≤ q) (hA : isA (t q) ∨ isD (t q)) (ho : ∀ i, 0 ≤ i → i < q - a → isA (t (a + i)) ∨ isD (t (a + i))) (h5 : gv w' m 5 = q + 1) (h6 : gv w' m 6 = a) (h12 : q - a < 7 → gv w' m 12 = w64 (w64 (w64 (27 * gv w m 12) + t q) - 96)) (h8 : q - a < 3 → gv w' m 8 = w32 (w32 (w32 (10 * gv w m 8) + t q) - 48)) : ScnM w' m t a (q + 1) := by
  obtain ⟨g1, g2, g3⟩ := h
  have e1 : (q + 1 - a).toNat = (q - a).toNat + 1 := by omega
  have e2 : a + ((q - a).toNat : Int) = q := by omega
  have r := cL_rg t a (q - a).toNat
  refine ⟨⟨h5, h6⟩, fun z => ?_, fun z => ?_⟩
  · rw [e1] at z ⊢
    simp only [cL, cod] at z ⊢
    rw [e2] at z ⊢
    have c : isA (t q) := by
      by_cases c : isA (t q)
      · exact c
      · rw [if_neg c] at z; omega
    rw [if_pos c] at z
    have b := cod27_rg (q - a).toNat (cL_all (t := t) (a := a) (q - a).toNat (by omega))
    have b2 := p27 (f := (q - a).toNat) (by omega)
    rw [h12 (by omega), g2 ⟨by omega, by omega⟩, w64_eq (x := 27 * cod 27 t a (q - a).toNat) (by omega) (by omega), w64_eq (x := 27 * cod 27 t a (q - a).toNat + t q) (by omega) (by omega), w64_eq (by omega) (by omega)]
    omega
  · rw [e1] at z ⊢
    simp only [cL, nm10] at z ⊢
    rw [e2] at z ⊢
    have c : ¬ isA (t q) := fun c => by rw [if_pos c] at z; omega
    rw [if_neg c] at z
    have nl : ∀ i, 0 ≤ i → i < ((q - a).toNat : Int) → isD (t (a + i)) := fun i i0 i1 => by
      rcases ho i i0 (by omega) with y | y
      · have key : ∀ (f : Nat), cL t a f = 0 → ∀ i, 0 ≤ i → i < (f : Int) → ¬ isA (t (a + i)) := fun f => by
          induction f with
          | zero => intro _ i i0 i1; omega
          | succ f ih =>
            intro hz i i0 i1
            have rr := cL_rg t a f
            simp only [cL] at hz
            by_cases cc : isA (t (a + f))
            · rw [if_pos cc] at hz; omega
            · rw [if_neg cc] at hz
              by_cases zz : i = f
              · rw [zz]; exact cc
              · exact ih (by omega) i i0 (by omega)
        exact absurd y (key (q - a).toNat (by omega) i i0 i1)
      · exact y
    have b := nm_rg (t := t) (a := a) (q - a).toNat (by omega) nl
    have dg : isD (t q) := by rcases hA with y | y; exact absurd y c; exact y
    rw [h8 (by omega), g3 ⟨by omega, by omega⟩, w32_eq (x := 10 * nm10 t a (q - a).toNat) (by omega) (by omega), w32_eq (x := 10 * nm10 t a (q - a).toNat + t q) (by omega) (by omega), w32_eq (by omega) (by omega)]
    omega
theorem gn_iff {PA PB : Prop} [Decidable PA] [Decidable PB] {x y : Int} (r : 0 ≤ x ∧ x ≤ y) : ((PA ∧ x + (if PB then 1 else 0) = y + 1) ∨ (¬ PA ∧ x + (if PB then 1 else 0) = 0)) ↔ (((PA ∧ x = y) ∨ (¬ PA ∧ x = 0)) ∧ (if PB then (1 : Int) else 0) = (if PA then 1 else 0)) := by
  by_cases hA : PA <;> by_cases hB : PB <;> simp [hA, hB] <;> omega
/-- one byte more: from 272 on -/
theorem l_m272 {a q b lt : Int} {w : sW} (hT : MTx w m t n most) (hS : ScnM w m t a q) (h0 : 0 ≤ a) (ha : a ≤ q) (hq : q < n) (hA : isA (t q) ∨ isD (t q)) (ho : ∀ i, 0 ≤ i → i < q - a → isA (t (a + i)) ∨ isD (t (a + i))) : ∃ w', (∀ res, Rn C mX12_go (215, [some (rV m), none, some (iV lt), some (iV b), none], [], w') res → Rn C mX12_go (272, [some (rV m), none, some (iV lt), none, some (iV (t q))], [iV b], w) res) ∧ MTx w' m t n most ∧ ScnM w' m t a (q + 1) ∧ Mf w w' (fun r j => r = m ∧ (j = 5 ∨ j = 8 ∨ j = 12)) := by
  have k := hT.1.1
  have n9 := hT.2.2.1
  have g5 := hS.1.1
  have g6 := hS.1.2
  have e1 : w32 (q - a) = q - a := w32_eq (by omega) (by omega)
  have e2 : w32 (q + 1) = q + 1 := w32_eq (by omega) (by omega)
  obtain ⟨v12, hv12⟩ : ∃ v, v = w64 (w64 (w64 (27 * gv w m 12) + t q) - 96) := ⟨_, rfl⟩
  obtain ⟨v8, hv8⟩ : ∃ v, v = w32 (w32 (w32 (10 * gv w m 8) + t q) - 48) := ⟨_, rfl⟩
  by_cases c7 : q - a < 7
  · have m12 := Mf.svI w m 12 v12
    generalize hw1 : sv w m 12 v12 = w1 at m12
    have k1 : kd w1 m = 10 := by rw [m12.kdE]; exact k
    have a5 : gv w1 m 5 = q := by rw [m12.gvE (by omega)]; exact g5
    have a6 : gv w1 m 6 = a := by rw [m12.gvE (by omega)]; exact g6
    have a8 : gv w1 m 8 = gv w m 8 := m12.gvE (by omega)
    have a12 : gv w1 m 12 = v12 := by rw [← hw1, gvSS]
    by_cases c3 : q - a < 3
    · have m8 := Mf.svI w1 m 8 v8
      have m5 := Mf.svI (sv w1 m 8 v8) m 5 (q + 1)
      have mf : Mf w (sv (sv w1 m 8 v8) m 5 (q + 1)) (fun r j => r = m ∧ (j = 5 ∨ j = 8 ∨ j = 12)) := (m12.trans (m8.trans m5)).mono (fun r j z => by omega)
      have k2 : kd (sv w1 m 8 v8) m = 10 := k1
      have b5 : gv (sv w1 m 8 v8) m 5 = q := by rw [m8.gvE (by omega)]; exact a5
      refine ⟨_, fun res r => Rn.cut ?_ r, hT.mf mf (by omega) (fun j => by omega), hS.next ha hA ho (gvSS _ _ _ _) (by rw [mf.gvE (by omega)]; exact g6) (fun _ => by rw [m5.gvE (by omega), m8.gvE (by omega), a12, hv12]) (fun _ => by rw [m5.gvE (by omega), gvSS, hv8]), mf⟩
      rw [eX12_go_272, if_pos k, if_pos k, g5, g6, e1, if_pos c7, if_pos k, if_pos k, ← hv12, wl_eq, hw1, if_pos k1, if_pos k1, a5, a6, e1, if_pos c3, if_pos k1, if_pos k1, a8, ← hv8, wl_eq, if_pos k2, if_pos k2, b5, e2, wl_eq]
    · have m5 := Mf.svI w1 m 5 (q + 1)
      have mf : Mf w (sv w1 m 5 (q + 1)) (fun r j => r = m ∧ (j = 5 ∨ j = 8 ∨ j = 12)) := (m12.trans m5).mono (fun r j z => by omega)
      refine ⟨_, fun res r => Rn.cut ?_ r, hT.mf mf (by omega) (fun j => by omega), hS.next ha hA ho (gvSS _ _ _ _) (by rw [mf.gvE (by omega)]; exact g6) (fun _ => by rw [m5.gvE (by omega), a12, hv12]) (fun z => absurd z c3), mf⟩
      rw [eX12_go_272, if_pos k, if_pos k, g5, g6, e1, if_pos c7, if_pos k, if_pos k, ← hv12, wl_eq, hw1, if_pos k1, if_pos k1, a5, a6, e1, if_neg c3, if_pos k1, if_pos k1, e2, wl_eq]
  · have c3 : ¬ q - a < 3 := by omega
    have m5 := Mf.svI w m 5 (q + 1)
    have mf : Mf w (sv w m 5 (q + 1)) (fun r j => r = m ∧ (j = 5 ∨ j = 8 ∨ j = 12)) := m5.mono (fun r j z => by omega)
    refine ⟨_, fun res r => Rn.cut ?_ r, hT.mf mf (by omega) (fun j => by omega), hS.next ha hA ho (gvSS _ _ _ _) (by rw [mf.gvE (by omega)]; exact g6) (fun z => absurd z c7) (fun z => absurd z c3), mf⟩
    rw [eX12_go_272, if_pos k, if_pos k, g5, g6, e1, if_neg c7, if_pos k, if_pos k, if_neg c3, if_pos k, if_pos k, e2, wl_eq]
/-- whether all bytes from a to q are of the first's sort -/
abbrev gdM (t : Int → Int) (a q : Int) : Prop := (isA (t a) ∧ cL t a (q - a).toNat = q - a) ∨ (¬ isA (t a) ∧ cL t a (q - a).toNat = 0)
theorem l_m215 {a : Int} (h0 : 0 ≤ a) : ∀ (f : Nat) (q : Int) (w : sW), q + f = n → a ≤ q → MTx w m t n most → ScnM w m t a q → (∀ i, 0 ≤ i → i < q - a → isA (t (a + i)) ∨ isD (t (a + i))) → a < enF t n f q → ∃ w', Rn (Ex pro (d + 1)) mX12_go (215, [some (rV m), none, some (iV (if isA (t a) then 1 else 0)), some (iV (if gdM t a q then 1 else 0)), none], [], w) (none, sv w' m 7 (knd t a (enF t n f q - a).toNat)) ∧ MTx w' m t n most ∧ ScnM w' m t a (enF t n f q) ∧ Mf w w' (fun r j => r = m ∧ (j = 5 ∨ j = 8 ∨ j = 12)) := by
  have stop : ∀ (q : Int) (w : sW), a < q → q ≤ n → MTx w m t n most → ScnM w m t a q → ¬ (q < n ∧ (isA (t q) ∨ isD (t q))) → Rn (Ex pro (d + 1)) mX12_go (215, [some (rV m), none, some (iV (if isA (t a) then 1 else 0)), some (iV (if gdM t a q then 1 else 0)), none], [], w) (none, sv w m 7 (knd t a (q - a).toNat)) := fun q w ha hq hT hS hs => by
    have k := hT.1.1
    have n9 := hT.2.2.1
    have x0 : ¬ isA (if q < n then t q else 0) := by
      by_cases c : q < n
      · rw [if_pos c]; exact fun z => hs ⟨c, Or.inl z⟩
      · rw [if_neg c]; unfold isA; omega
    have x1 : ¬ isD (if q < n then t q else 0) := by
      by_cases c : q < n
      · rw [if_pos c]; exact fun z => hs ⟨c, Or.inr z⟩
      · rw [if_neg c]; unfold isD; omega
    have r := cL_rg t a (q - a).toNat
    have first : isA (t a) → 1 ≤ cL t a (q - a).toNat := fun z => by
      have key : ∀ (f : Nat), 1 ≤ f → isA (t a) → 1 ≤ cL t a f := fun f => by
        induction f with
        | zero => intro h; omega
        | succ f ih =>
          intro _ z
          simp only [cL]
          by_cases c : 1 ≤ f
          · have := ih c z; split <;> omega
          · have f0 : f = 0 := by omega
            subst f0
            rw [show a + ((0 : Nat) : Int) = a by omega, if_pos z]
            simp [cL]
      exact key _ (by omega) z
    have first2 : ¬ isA (t a) → cL t a (q - a).toNat < q - a := fun z => by
      have key : ∀ (f : Nat), 1 ≤ f → ¬ isA (t a) → cL t a f < f := fun f => by
        induction f with
        | zero => intro h; omega
        | succ f ih =>
          intro _ z
          simp only [cL]
          by_cases c : 1 ≤ f
          · have := ih c z; split <;> omega
          · have f0 : f = 0 := by omega
            subst f0
            rw [show a + ((0 : Nat) : Int) = a by omega, if_neg z]
            simp [cL]
      have := key (q - a).toNat (by omega) z
      omega
    refine Rn.ret ?_
    rw [eX12_go_215, if_pos k, if_pos k, hS.1.1, o_tapeAt hT (by omega)]
    simp only [bI]
    rw [o_isLetter, if_neg x0]
    simp only []
    rw [if_pos trivial, if_pos k, if_pos k, hS.1.1, o_tapeAt hT (by omega)]
    simp only []
    rw [o_isDigit, if_neg x1]
    simp only [ite10]
    rw [if_pos trivial, hS.1.1, hS.1.2, w32_eq (x := q - a) (by omega) (by omega)]
    unfold knd
    by_cases A : isA (t a)
    · have f1 := first A
      by_cases g : gdM t a q
      · have gg : cL t a (q - a).toNat = q - a := by
          rcases g with z | z
          · exact z.2
          · exact absurd A z.1
        rw [if_pos g, if_pos k, if_pos k, if_pos A]
        by_cases l7 : 7 < q - a
        · rw [if_pos l7, if_pos k, wl_eq, if_neg (by omega), if_neg (by omega)]
        · rw [if_neg l7, if_pos A, if_pos k, wl_eq, if_pos (by omega)]
      · have gg : ¬ cL t a (q - a).toNat = q - a := fun z => g (Or.inl ⟨A, z⟩)
        rw [if_neg g, if_pos k, wl_eq, if_neg (by omega), if_neg (by omega)]
    · have f2 := first2 A
      by_cases g : gdM t a q
      · have gg : cL t a (q - a).toNat = 0 := by
          rcases g with z | z
          · exact absurd z.1 A
          · exact z.2
        rw [if_pos g, if_pos k, if_pos k, if_neg A]
        by_cases l3 : 3 < q - a
        · rw [if_pos l3, if_pos k, wl_eq, if_neg (by omega), if_neg (by omega)]
        · rw [if_neg l3, if_neg A, if_pos k, wl_eq, if_neg (by omega), if_pos (by omega)]
      · have gg : ¬ cL t a (q - a).toNat = 0 := fun z => g (Or.inr ⟨A, z⟩)
        rw [if_neg g, if_pos k, wl_eq, if_neg (by omega), if_neg (by omega)]
  intro f
  induction f with
  | zero =>
    intro q w hf ha hT hS ho he
    simp only [enF] at he ⊢
    exact ⟨w, stop q w he (by omega) hT hS (fun z => by omega), hT, hS, Mf.refl _ _⟩
  | succ f ih =>
    intro q w hf ha hT hS ho he
    by_cases c : isA (t q) ∨ isD (t q)
    · have eE : enF t n (f + 1) q = enF t n f (q + 1) := by simp only [enF]; rw [if_pos ⟨by omega, c⟩]
      rw [eE] at he ⊢
      have ho' : ∀ i, 0 ≤ i → i < q + 1 - a → isA (t (a + i)) ∨ isD (t (a + i)) := fun i i0 i1 => by
        by_cases z : i = q - a
        · rw [z, show a + (q - a) = q by omega]; exact c
        · exact ho i i0 (by omega)
      have k := hT.1.1
      have n9 := hT.2.2.1
      have tq := hT.2.2.2.2 q (by omega) (by omega)
      have gd : kd w (m + 1) = 20 ∧ 0 ≤ q ∧ q < ln w (m + 1) := ⟨hT.2.1.1, by omega, by rw [hT.2.1.2]; omega⟩
      have r := cL_rg t a (q - a).toNat
      have e3 : cL t a (q + 1 - a).toNat = cL t a (q - a).toNat + (if isA (t q) then 1 else 0) := by
        rw [show (q + 1 - a).toNat = (q - a).toNat + 1 by omega]
        simp only [cL]
        rw [show a + ((q - a).toNat : Int) = q by omega]
      have gnext : gdM t a (q + 1) ↔ gdM t a q ∧ (if isA (t q) then (1 : Int) else 0) = (if isA (t a) then 1 else 0) := by
        unfold gdM
        rw [e3, show q + 1 - a = q - a + 1 by omega]
        exact gn_iff (by omega)
      obtain ⟨w1, b1, b2, b3, b4⟩ := l_m272 (C := Ex pro (d + 1)) (b := if gdM t a (q + 1) then 1 else 0) (lt := if isA (t a) then 1 else 0) hT hS h0 ha (by omega) c ho
      obtain ⟨w2, d1, d2, d3, d4⟩ := ih (q + 1) w1 (by omega) (by omega) b2 b3 ho' he
      refine ⟨w2, Rn.cut (c' := (272, [some (rV m), none, some (iV (if isA (t a) then 1 else 0)), none, some (iV (t q))], [iV (if gdM t a (q + 1) then 1 else 0)], w)) ?_ (b1 _ d1), d2, d3, b4.tr d4⟩
      have x1 : (if q < n then t q else 0) = t q := if_pos (by omega)
      have tail : (if (if gdM t a q then (1 : Int) else 0) = 0 then (some (Sum.inl (272, [some (rV m), none, some (iV (if isA (t a) then 1 else 0)), none, some (iV (t q))], [iV 0], w)) : Option sO) else if (if isA (t q) then (1 : Int) else 0) = (if isA (t a) then 1 else 0) then some (Sum.inl (272, [some (rV m), none, some (iV (if isA (t a) then 1 else 0)), none, some (iV (t q))], [iV 1], w)) else some (Sum.inl (272, [some (rV m), none, some (iV (if isA (t a) then 1 else 0)), none, some (iV (t q))], [iV 0], w))) = some (Sum.inl (272, [some (rV m), none, some (iV (if isA (t a) then 1 else 0)), none, some (iV (t q))], [iV (if gdM t a (q + 1) then 1 else 0)], w)) := by
        by_cases g : gdM t a q
        · rw [if_pos g, if_neg (by decide)]
          by_cases y : (if isA (t q) then (1 : Int) else 0) = (if isA (t a) then 1 else 0)
          · rw [if_pos y, if_pos (gnext.mpr ⟨g, y⟩)]
          · rw [if_neg y, if_neg (fun z => y (gnext.mp z).2)]
        · rw [if_neg g, if_pos rfl, if_neg (fun z => g (gnext.mp z).1)]
      rw [eX12_go_215, if_pos k, if_pos k, hS.1.1, o_tapeAt hT (by omega)]
      simp only [bI]
      rw [x1, o_isLetter]
      simp only []
      by_cases A : isA (t q)
      · rw [if_pos A, if_neg (by decide), if_pos k, if_pos k, hT.1.2.1, hS.1.1, if_pos gd, tq.1, o_isLetter]
        simp only []
        exact tail
      · have D : isD (t q) := by rcases c with y | y; exact absurd y A; exact y
        rw [if_neg A, if_pos rfl, if_pos k, if_pos k, hS.1.1, o_tapeAt hT (by omega)]
        simp only []
        rw [x1, o_isDigit, if_pos D]
        simp only []
        rw [if_neg (by decide), if_pos k, if_pos k, hT.1.2.1, hS.1.1, if_pos gd, tq.1, o_isLetter]
        simp only []
        exact tail
    · have eE : enF t n (f + 1) q = q := by simp only [enF]; rw [if_neg (fun z => c z.2)]
      rw [eE] at he ⊢
      exact ⟨w, stop q w he (by omega) hT hS (fun z => c z.2), hT, hS, Mf.refl _ _⟩
end GO
