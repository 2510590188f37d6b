/-! ===== the tape ===== -/
theorem Mf.ag {w w' : sW} {P : Int → Int → Prop} (h : Mf w w' P) : Ag w w' P := ⟨by unfold nx; rw [h.2.1]; omega, fun r _ _ => by rw [h.1], fun r j _ _ hp => h.2.2 r j hp⟩
theorem Mf.nxE {w w' : sW} {P : Int → Int → Prop} (h : Mf w w' P) : nx w' = nx w := by unfold nx; rw [h.2.1]
theorem Mf.ucE {w w' : sW} {P : Int → Int → Prop} (h : Mf w w' P) : uc w' = uc w := by unfold uc; rw [h.2.1]
theorem Mf.usE {w w' : sW} {P : Int → Int → Prop} (h : Mf w w' P) : us w' = us w := by unfold us; rw [h.2.1]
theorem Mf.eqO {w w' : sW} {P : Int → Int → Prop} {lo hi : Int} (h : Mf w w' P) (hp : ∀ r j, lo ≤ r → r ≤ hi → ¬ P r j) : EqO w w' lo hi := fun r r1 r2 => ⟨by rw [h.1], fun j => h.2.2 r j (hp r j r1 r2)⟩
/-- the object o has n bytes t on its tape N -/
def TpI (w : sW) (o fa fn N : Int) (t : Int → Int) (n : Int) : Prop := (gv w o fa = N ∧ kd w N = 20 ∧ ln w N = 940 ∧ 32 ≤ N ∧ N ≠ o ∧ fa ≠ fn) ∧ gv w o fn = n ∧ (0 ≤ n ∧ n ≤ 940) ∧ ∀ i, 0 ≤ i → i < 940 → gv w N i = t i ∧ 0 ≤ t i ∧ t i ≤ 255
theorem TpI.ag {w w' : sW} {o fa fn N n : Int} {t : Int → Int} {P : Int → Int → Prop} (h : TpI w o fa fn N t n) (g : Ag w w' P) (ho : 0 ≤ o ∧ o < nx w) (hN : N < nx w) (h1 : ¬ P o fa) (h2 : ¬ P o fn) (h3 : ∀ j, ¬ P N j) : TpI w' o fa fn N t n := by
  obtain ⟨⟨a1, a2, a3, a4, a5, a6⟩, a7, a8, a9⟩ := h
  refine ⟨⟨by rw [g.gvE ho.1 ho.2 h1]; exact a1, by rw [g.kdE (by omega) hN]; exact a2, by rw [g.lnE (by omega) hN]; exact a3, a4, a5, a6⟩, by rw [g.gvE ho.1 ho.2 h2]; exact a7, a8, fun i i0 i1 => ?_⟩
  rw [g.gvE (by omega) hN (h3 i)]
  exact a9 i i0 i1
theorem TpI.mf {w w' : sW} {o fa fn N n : Int} {t : Int → Int} {P : Int → Int → Prop} (h : TpI w o fa fn N t n) (g : Mf w w' P) (h1 : ¬ P o fa) (h2 : ¬ P o fn) (h3 : ∀ j, ¬ P N j) : TpI w' o fa fn N t n := by
  obtain ⟨⟨a1, a2, a3, a4, a5, a6⟩, a7, a8, a9⟩ := h
  refine ⟨⟨by rw [g.gvE h1]; exact a1, by rw [g.kdE]; exact a2, by rw [g.lnE]; exact a3, a4, a5, a6⟩, by rw [g.gvE h2]; exact a7, a8, fun i i0 i1 => ?_⟩
  rw [g.gvE (h3 i)]
  exact a9 i i0 i1
/-- f bytes of a number put at n -/
def fdN (a : Int) : Nat → (Int → Int) → Int → (Int → Int)
  | 0, t, _ => t
  | f + 1, t, n => fdN a f (updI t n (f_iand (f_iushr a (8 * f)) 255)) (n + 1)
theorem TpI.put {w : sW} {o fa fn N n : Int} {t : Int → Int} (h : TpI w o fa fn N t n) (hn : n < 940) {v : Int} (hv : 0 ≤ v ∧ v ≤ 255) : TpI (sv (sv w N n v) o fn (n + 1)) o fa fn N (updI t n v) (n + 1) := by
  obtain ⟨⟨a1, a2, a3, a4, a5, a6⟩, a7, a8, a9⟩ := h
  refine ⟨⟨by rw [gvS, if_neg (by omega), gvS, if_neg (by omega)]; exact a1, a2, a3, a4, a5, a6⟩, gvSS _ _ _ _, by omega, fun i i0 i1 => ?_⟩
  rw [gvS, if_neg (by omega), gvS]
  unfold updI
  by_cases c : i = n
  · rw [if_pos ⟨rfl, c⟩, if_pos c]; exact ⟨rfl, hv⟩
  · rw [if_neg (fun z => c z.2), if_neg c]; exact a9 i i0 i1
section TP
variable {d : Nat} {w : sW} {m : Int} {C : sC}
theorem l_feedB {a : Int} : ∀ (f : Nat) (w : sW) (t : Int → Int) (n : Int), kd w 32 = 9 → TpI w 32 0 1 33 t n → n + f ≤ 940 → f ≤ 4 → ∃ w', Rn C mX11_feedBytes (3, [some (rV 32), some (iV a), some (iV (8 * (f : Int) - 8))], [], w) (none, w') ∧ TpI w' 32 0 1 33 (fdN a f t n) (n + f) ∧ Mf w w' (fun r j => (r = 32 ∧ j = 1) ∨ r = 33)
  | 0, w, t, n, hk, h, hn, hf => by
    refine ⟨w, Rn.ret ?_, by rw [show n + ((0 : Nat) : Int) = n by omega]; exact h, Mf.refl _ _⟩
    rw [eX11_feedBytes_3, if_pos (by omega)]
  | f + 1, w, t, n, hk, h, hn, hf => by
    have hv := z_iand255 (f_iushr a (8 * f))
    obtain ⟨w', b1, b2, b3⟩ := l_feedB (a := a) f (sv (sv w 33 n (f_iand (f_iushr a (8 * f)) 255)) 32 1 (n + 1)) (updI t n (f_iand (f_iushr a (8 * f)) 255)) (n + 1) hk (h.put (by omega) hv) (by omega) (by omega)
    obtain ⟨⟨a1, a2, a3, a4, a5, a6⟩, a7, a8, a9⟩ := h
    refine ⟨w', Rn.cut ?_ b1, ?_, ((((Mf.svI w 33 n _).trans (Mf.svI _ 32 1 (n + 1))).trans b3).mono (fun r j z => by omega))⟩
    · have e1 : gv (sv w 33 n (f_iand (f_iushr a (8 * f)) 255)) 32 1 = n := by rw [gvS, if_neg (by omega)]; exact a7
      have hk1 : kd (sv w 33 n (f_iand (f_iushr a (8 * f)) 255)) 32 = 9 := hk
      rw [eX11_feedBytes_3, if_neg (by omega), if_pos hk, if_pos hk, if_pos hk, a7, a1, if_pos (by omega), if_pos ⟨⟨a2, a4⟩, by omega, by omega⟩, wl_eq, show 8 * ((f + 1 : Nat) : Int) - 8 = 8 * f by omega, if_pos hk1, if_pos hk1, e1, w32_eq (x := n + 1) (by omega) (by omega), wl_eq, w32_eq (by omega) (by omega)]
      rfl
    · rw [show n + ((f + 1 : Nat) : Int) = n + 1 + f by omega]
      exact b2
theorem p_feedB {a n : Int} {t : Int → Int} (hk : kd w 32 = 9) (h : TpI w 32 0 1 33 t n) (hn : n + 4 ≤ 940) : ∃ w', Ex pro (d + 1) 97 w [rV 32, iV a] = some (none, w') ∧ TpI w' 32 0 1 33 (fdN a 4 t n) (n + 4) ∧ Mf w w' (fun r j => (r = 32 ∧ j = 1) ∨ r = 33) := by
  obtain ⟨w', b1, b2, b3⟩ := l_feedB (C := Ex pro d) (a := a) 4 w t n hk h (by omega) (by omega)
  exact ⟨w', xX11_feedBytes (Rn.cut (eX11_feedBytes_0 _ _ _ _) b1), b2, b3⟩
def fdF (t : Int → Int) (n a b c e g : Int) : Int → Int := fdN g 4 (fdN e 4 (fdN c 4 (fdN b 4 (fdN a 4 t n) (n + 4)) (n + 8)) (n + 12)) (n + 16)
theorem p_feed {n : Int} {t : Int → Int} (hk : kd w 32 = 9) (h : TpI w 32 0 1 33 t n) (a b c e g : Int) : ∃ w', Ex pro (d + 2) 96 w [rV 32, iV a, iV b, iV c, iV e, iV g] = some (some (iV (if 920 < n then -1 else n + 20)), w') ∧ TpI w' 32 0 1 33 (if 920 < n then t else fdF t n a b c e g) (if 920 < n then n else n + 20) ∧ Mf w w' (fun r j => (r = 32 ∧ j = 1) ∨ r = 33) := by
  have h8 := h.2.2.1
  have h7 := h.2.1
  by_cases z : 920 < n
  · rw [if_pos z, if_pos z, if_pos z]
    refine ⟨w, xX11_feed (Rn.ret ?_), h, Mf.refl _ _⟩
    rw [eX11_feed_0, if_pos hk, h7, w32_eq (by omega) (by omega), if_pos (by omega)]
  · rw [if_neg z, if_neg z, if_neg z]
    obtain ⟨w1, a1, a2, a3⟩ := p_feedB (d := d) (a := a) hk h (by omega)
    have k1 : kd w1 32 = 9 := by rw [a3.kdE]; exact hk
    obtain ⟨w2, b1, b2, b3⟩ := p_feedB (d := d) (a := b) k1 a2 (by omega)
    have k2 : kd w2 32 = 9 := by rw [b3.kdE]; exact k1
    obtain ⟨w3, c1, c2, c3⟩ := p_feedB (d := d) (a := c) k2 b2 (by omega)
    have k3 : kd w3 32 = 9 := by rw [c3.kdE]; exact k2
    obtain ⟨w4, d1, d2, d3⟩ := p_feedB (d := d) (a := e) k3 c2 (by omega)
    have k4 : kd w4 32 = 9 := by rw [d3.kdE]; exact k3
    obtain ⟨w5, e1, e2, e3⟩ := p_feedB (d := d) (a := g) k4 d2 (by omega)
    have k5 : kd w5 32 = 9 := by rw [e3.kdE]; exact k4
    rw [show n + 4 + 4 = n + 8 by omega, show n + 8 + 4 = n + 12 by omega, show n + 12 + 4 = n + 16 by omega, show n + 16 + 4 = n + 20 by omega] at e2
    refine ⟨w5, xX11_feed (Rn.ret ?_), e2, a3.tr (b3.tr (c3.tr (d3.tr e3)))⟩
    rw [eX11_feed_0, if_pos hk, h7, w32_eq (by omega) (by omega), if_neg (by omega), if_pos hk, a1]
    simp only [bN]
    rw [if_pos k1, b1]
    simp only []
    rw [if_pos k2, c1]
    simp only []
    rw [if_pos k3, d1]
    simp only []
    rw [if_pos k4, e1]
    simp only []
    rw [if_pos k5, e2.2.1]
theorem p_end {n : Int} {t : Int → Int} (hk : kd w 32 = 9) (h : TpI w 32 0 1 33 t n) (a : Int) : ∃ w', Ex pro (d + 1) 98 w [rV 32, iV a] = some (some (iV (if 0 ≤ a ∧ a ≤ n then 1 else 0)), w') ∧ TpI w' 32 0 1 33 t (if 0 ≤ a ∧ a ≤ n then a else n) ∧ Mf w w' (fun r j => (r = 32 ∧ j = 1) ∨ r = 33) := by
  obtain ⟨⟨a1, a2, a3, a4, a5, a6⟩, a7, a8, a9⟩ := h
  by_cases z : 0 ≤ a ∧ a ≤ n
  · rw [if_pos z, if_pos z]
    refine ⟨sv w 32 1 a, xX11_end (Rn.ret ?_), ⟨⟨by rw [gvS, if_neg (by omega)]; exact a1, a2, a3, a4, a5, a6⟩, gvSS _ _ _ _, by omega, fun i i0 i1 => by rw [gvS, if_neg (by omega)]; exact a9 i i0 i1⟩, (Mf.svI w 32 1 a).mono (fun r j z => by omega)⟩
    rw [eX11_end_0, if_neg (by omega), if_pos hk, if_pos hk, a7, if_neg (by omega), wl_eq]
  · rw [if_neg z, if_neg z]
    refine ⟨w, xX11_end (Rn.ret ?_), ⟨⟨a1, a2, a3, a4, a5, a6⟩, a7, a8, a9⟩, Mf.refl _ _⟩
    rw [eX11_end_0, if_pos hk, a7]
    by_cases y : a < 0
    · rw [if_pos y]
    · rw [if_neg y, if_pos (by omega)]
theorem l_come {a : Int} : ∀ (f : Nat) (w : sW) (t : Int → Int) (n : Int), kd w m = 10 → TpI w m 1 2 (m + 1) t n → n + f ≤ 940 → f ≤ 4 → ∃ w', Rn C mX12_come (3, [some (rV m), some (iV a), some (iV (8 * (f : Int) - 8))], [], w) (none, w') ∧ TpI w' m 1 2 (m + 1) (fdN a f t n) (n + f) ∧ Mf w w' (fun r j => (r = m ∧ j = 2) ∨ r = m + 1)
  | 0, w, t, n, hk, h, hn, hf => by
    refine ⟨w, Rn.ret ?_, by rw [show n + ((0 : Nat) : Int) = n by omega]; exact h, Mf.refl _ _⟩
    rw [eX12_come_3, if_pos (by omega)]
  | f + 1, w, t, n, hk, h, hn, hf => by
    have hv := z_iand255 (f_iushr a (8 * f))
    obtain ⟨w', b1, b2, b3⟩ := l_come (a := a) f (sv (sv w (m + 1) n (f_iand (f_iushr a (8 * f)) 255)) m 2 (n + 1)) (updI t n (f_iand (f_iushr a (8 * f)) 255)) (n + 1) hk (h.put (by omega) hv) (by omega) (by omega)
    obtain ⟨⟨a1, a2, a3, a4, a5, a6⟩, a7, a8, a9⟩ := h
    refine ⟨w', Rn.cut ?_ b1, ?_, ((((Mf.svI w (m + 1) n _).trans (Mf.svI _ m 2 (n + 1))).trans b3).mono (fun r j z => by omega))⟩
    · have e1 : gv (sv w (m + 1) n (f_iand (f_iushr a (8 * f)) 255)) m 2 = n := by rw [gvS, if_neg (by omega)]; exact a7
      have hk1 : kd (sv w (m + 1) n (f_iand (f_iushr a (8 * f)) 255)) m = 10 := hk
      rw [eX12_come_3, if_neg (by omega), if_pos hk, if_pos hk, a7, a1, if_pos ⟨⟨a2, a4⟩, by omega, by omega⟩, wl_eq, show 8 * ((f + 1 : Nat) : Int) - 8 = 8 * f by omega, if_pos hk1, if_pos hk1, e1, w32_eq (x := n + 1) (by omega) (by omega), wl_eq, w32_eq (by omega) (by omega)]
      rfl
    · rw [show n + ((f + 1 : Nat) : Int) = n + 1 + f by omega]
      exact b2
theorem o_come {a n : Int} {t : Int → Int} (hk : kd w m = 10) (h : TpI w m 1 2 (m + 1) t n) (hn : n + 4 ≤ 940) : ∃ w', Ex pro (d + 1) 151 w [rV m, iV a] = some (none, w') ∧ TpI w' m 1 2 (m + 1) (fdN a 4 t n) (n + 4) ∧ Mf w w' (fun r j => (r = m ∧ j = 2) ∨ r = m + 1) := by
  obtain ⟨w', b1, b2, b3⟩ := l_come (C := Ex pro d) (a := a) 4 w t n hk h (by omega) (by omega)
  exact ⟨w', xX12_come (Rn.cut (eX12_come_0 _ _ _ _) b1), b2, b3⟩
theorem q_feed {n : Int} {t : Int → Int} (hk : kd w m = 10) (h : TpI w m 1 2 (m + 1) t n) (a b c e g : Int) : ∃ w', Ex pro (d + 2) 152 w [rV m, iV a, iV b, iV c, iV e, iV g] = some (some (iV (if 920 < n then -1 else n + 20)), w') ∧ TpI w' m 1 2 (m + 1) (if 920 < n then t else fdF t n a b c e g) (if 920 < n then n else n + 20) ∧ Mf w w' (fun r j => (r = m ∧ (j = 0 ∨ j = 2)) ∨ r = m + 1) := by
  have h8 := h.2.2.1
  have mf0 := Mf.svI w m 0 0
  have h0 := h.mf mf0 (by omega) (by omega) (fun j => by omega)
  have h7 := h0.2.1
  have k0 : kd (sv w m 0 0) m = 10 := hk
  by_cases z : 920 < n
  · rw [if_pos z, if_pos z, if_pos z]
    refine ⟨sv w m 0 0, xX12_feed (Rn.ret ?_), h0, mf0.mono (fun r j z => by omega)⟩
    rw [eX12_feed_0, if_pos hk, wl_eq, if_pos k0, h7, w32_eq (by omega) (by omega), if_pos (by omega)]
  · rw [if_neg z, if_neg z, if_neg z]
    obtain ⟨w1, a1, a2, a3⟩ := o_come (d := d) (a := a) k0 h0 (by omega)
    have k1 : kd w1 m = 10 := by rw [a3.kdE]; exact k0
    obtain ⟨w2, b1, b2, b3⟩ := o_come (d := d) (a := b) k1 a2 (by omega)
    have k2 : kd w2 m = 10 := by rw [b3.kdE]; exact k1
    obtain ⟨w3, c1, c2, c3⟩ := o_come (d := d) (a := c) k2 b2 (by omega)
    have k3 : kd w3 m = 10 := by rw [c3.kdE]; exact k2
    obtain ⟨w4, d1, d2, d3⟩ := o_come (d := d) (a := e) k3 c2 (by omega)
    have k4 : kd w4 m = 10 := by rw [d3.kdE]; exact k3
    obtain ⟨w5, e1, e2, e3⟩ := o_come (d := d) (a := g) k4 d2 (by omega)
    have k5 : kd w5 m = 10 := by rw [e3.kdE]; exact k4
    rw [show n + 4 + 4 = n + 8 by omega, show n + 8 + 4 = n + 12 by omega, show n + 12 + 4 = n + 16 by omega, show n + 16 + 4 = n + 20 by omega] at e2
    refine ⟨w5, xX12_feed (Rn.ret ?_), e2, (mf0.trans (a3.tr (b3.tr (c3.tr (d3.tr e3))))).mono (fun r j z => by omega)⟩
    rw [eX12_feed_0, if_pos hk, wl_eq, if_pos k0, h7, w32_eq (by omega) (by omega), if_neg (by omega), if_pos k0, a1]
    simp only [bN]
    rw [if_pos k1, b1]
    simp only []
    rw [if_pos k2, c1]
    simp only []
    rw [if_pos k3, d1]
    simp only []
    rw [if_pos k4, e1]
    simp only []
    rw [if_pos k5, e2.2.1]
theorem q_end {n : Int} {t : Int → Int} (hk : kd w m = 10) (h : TpI w m 1 2 (m + 1) t n) (a : Int) : ∃ w', Ex pro (d + 1) 153 w [rV m, iV a] = some (some (iV (if 0 ≤ a ∧ a ≤ n then 1 else 0)), w') ∧ TpI w' m 1 2 (m + 1) t (if 0 ≤ a ∧ a ≤ n then a else n) ∧ Mf w w' (fun r j => (r = m ∧ (j = 0 ∨ j = 2)) ∨ r = m + 1) := by
  have mf0 := Mf.svI w m 0 0
  have h0 := h.mf mf0 (by omega) (by omega) (fun j => by omega)
  have k0 : kd (sv w m 0 0) m = 10 := hk
  obtain ⟨⟨a1, a2, a3, a4, a5, a6⟩, a7, a8, a9⟩ := h0
  by_cases z : 0 ≤ a ∧ a ≤ n
  · rw [if_pos z, if_pos z]
    refine ⟨sv (sv w m 0 0) m 2 a, xX12_end (Rn.ret ?_), ⟨⟨by rw [gvS, if_neg (by omega)]; exact a1, a2, a3, a4, a5, a6⟩, gvSS _ _ _ _, by omega, fun i i0 i1 => by rw [gvS, if_neg (by omega)]; exact a9 i i0 i1⟩, (mf0.trans (Mf.svI _ m 2 a)).mono (fun r j z => by omega)⟩
    rw [eX12_end_0, if_pos hk, wl_eq, if_neg (by omega), if_pos k0, if_pos k0, a7, if_neg (by omega), wl_eq]
  · rw [if_neg z, if_neg z]
    refine ⟨sv w m 0 0, xX12_end (Rn.ret ?_), ⟨⟨a1, a2, a3, a4, a5, a6⟩, a7, a8, a9⟩, mf0.mono (fun r j z => by omega)⟩
    rw [eX12_end_0, if_pos hk, wl_eq, if_pos k0, a7]
    by_cases y : a < 0
    · rw [if_pos y]
    · rw [if_neg y, if_pos (by omega)]
end TP
