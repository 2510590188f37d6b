/-! ===== readSaid of the reference ===== -/
section MSa
variable {d : Nat} {m : Int} {t : Int → Int} {n most wi : Int} {A : Rm} {w : sW} {p c : Int} {k : Nat}
/-- the word is found -/
theorem l_saW1 (h : RdM w m t n most p) (h14 : 14 ≤ tkW t n most p) {x2 : Int} {res : Option sV × sW} (g : Rn (Ex pro (d + 3)) mX12_readSaid (46, [some (rV m), some (iV x2), some (iV (tkW t n most p - 1)), none], [], w) res) : ∀ (f : Nat) (i : Int), i + f = tkW t n most p - 1 → 13 ≤ i → Rn (Ex pro (d + 3)) mX12_readSaid (10, [some (rV m), some (iV x2), some (iV i), none], [], w) res
  | 0, i, hf, h0 => by
    have wr := tkW_rg t n most p
    have y : isW t n most p i := by unfold isW; omega
    refine Rn.cut ?_ g
    rw [eX12_readSaid_10, if_neg (by omega), if_pos h.1.1.1, o_isWord h (by omega)]
    simp only [bI, ite10]
    rw [if_pos y, show tkW t n most p - 1 = i by omega]
    by_cases z : x2 = 0
    · rw [if_pos z, if_neg (by omega)]
    · rw [if_neg z]
  | f + 1, i, hf, h0 => by
    have wr := tkW_rg t n most p
    have y : ¬ isW t n most p i := by unfold isW; omega
    refine Rn.cut ?_ (l_saW1 h h14 g f (i + 1) (by omega) (by omega))
    rw [eX12_readSaid_10, if_neg (by omega), if_pos h.1.1.1, o_isWord h (by omega)]
    simp only [bI, ite10]
    rw [if_neg y, w32_eq (by omega) (by omega)]
/-- no such word -/
theorem l_saW0 (h : RdM w m t n most p) (h14 : tkW t n most p < 14) {x2 : Int} {res : Option sV × sW} (g : Rn (Ex pro (d + 3)) mX12_readSaid (10, [some (rV m), some (iV x2), some (iV 23), none], [], w) res) : ∀ (f : Nat) (i : Int), i + f = 23 → 13 ≤ i → Rn (Ex pro (d + 3)) mX12_readSaid (10, [some (rV m), some (iV x2), some (iV i), none], [], w) res
  | 0, i, hf, h0 => by
    rw [show i = 23 by omega]
    exact g
  | f + 1, i, hf, h0 => by
    have y : ¬ isW t n most p i := by unfold isW; omega
    refine Rn.cut ?_ (l_saW0 h h14 g f (i + 1) (by omega) (by omega))
    rw [eX12_readSaid_10, if_neg (by omega), if_pos h.1.1.1, o_isWord h (by omega)]
    simp only [bI, ite10]
    rw [if_neg y, w32_eq (by omega) (by omega)]
/-- nothing of the sort -/
theorem l_saX (h : StM w m t n most A p c k wi) (hx : ¬ at1 t n most p) : ∃ w', Ex pro (d + 4) 268 w [rV m] = some (some (iV 0), w') ∧ RsM w' m t n most (1, tkP t n most p, p) ∧ Mf w w' (smP m) := by
  have k10 := h.k10
  have r1 : RdM w m t n most p := (h.1.1 rfl).1
  have wr := tkW_rg t n most p
  obtain ⟨w1, a1, a2, a3, a4⟩ := o_bad (d := d + 2) r1 1
  rw [show (if tkK t n most p = 1 then (1 : Int) else 1) = 1 by split <;> rfl] at a3
  have b : ¬ atS t n most p 40 := fun z => hx (Or.inl z)
  have h14 : tkW t n most p < 14 := by
    apply Int.not_le.mp
    exact fun z => hx (Or.inr ⟨z, wr.1.2⟩)
  have g : Rn (Ex pro (d + 3)) mX12_readSaid (10, [some (rV m), some (iV 0), some (iV 23), none], [], w) (some (iV 0), w1) := by
    refine Rn.ret ?_
    rw [eX12_readSaid_10, if_pos (by omega), if_pos rfl, if_pos (by omega), if_pos k10, a1]
    simp only [bI]
    rw [if_pos (by simp)]
  refine ⟨w1, xX12_readSaid (Rn.cut ?_ (l_saW0 (d := d) r1 h14 g 10 13 (by omega) (by omega))), ⟨fun z => absurd (show (1 : Int) = 0 from z) (by omega), fun _ => a3⟩, a4.mono (fun r j z => by omega)⟩
  rw [eX12_readSaid_0, if_pos k10, o_isSign r1]
  simp only [bI]
  rw [if_neg b]
/-- the way to the counting -/
theorem l_saG (h : StM w m t n most A p c k wi) (hx : at1 t n most p) {res : Option sV × sW} (g : Rn (Ex pro (d + 3)) mX12_readSaid (46, [some (rV m), some (iV (if atS t n most p 40 then 1 else 0)), some (iV (if 14 ≤ tkW t n most p then tkW t n most p - 1 else 23)), none], [], w) res) : Ex pro (d + 4) 268 w [rV m] = some res := by
  have k10 := h.k10
  have r1 : RdM w m t n most p := (h.1.1 rfl).1
  have wr := tkW_rg t n most p
  have go : Rn (Ex pro (d + 3)) mX12_readSaid (10, [some (rV m), some (iV (if atS t n most p 40 then 1 else 0)), some (iV 13), none], [], w) res := by
    by_cases h14 : 14 ≤ tkW t n most p
    · rw [if_pos h14] at g
      exact l_saW1 (d := d) r1 h14 g (tkW t n most p - 14).toNat 13 (by omega) (by omega)
    · rw [if_neg h14] at g
      have b : atS t n most p 40 := by
        rcases hx with z | z
        · exact z
        · omega
      refine l_saW0 (d := d) r1 (by omega) (Rn.cut ?_ g) 10 13 (by omega) (by omega)
      rw [if_pos b, eX12_readSaid_10, if_pos (by omega), if_neg (by omega)]
  refine xX12_readSaid (Rn.cut ?_ go)
  rw [eX12_readSaid_0, if_pos k10, o_isSign r1]
  simp only [bI]
/-- too many -/
theorem l_sa4 (h : StM w m t n most A p c k wi) (hx : at1 t n most p) (hc : c = 20 ∨ wi = 8) : ∃ w', Ex pro (d + 4) 268 w [rV m] = some (some (iV 0), w') ∧ RsM w' m t n most (4, tkP t n most p, p) ∧ Mf w w' (smP m) := by
  have k10 := h.k10
  have r1 : RdM w m t n most p := (h.1.1 rfl).1
  have k2 := at1_k hx
  obtain ⟨w1, a1, a2, a3, a4⟩ := o_bad (d := d + 2) r1 4
  rw [if_neg (by omega)] at a3
  refine ⟨w1, l_saG h hx (Rn.ret ?_), ⟨fun z => absurd (show (4 : Int) = 0 from z) (by omega), fun _ => a3⟩, a4.mono (fun r j z => by omega)⟩
  rw [eX12_readSaid_46, if_pos k10, h.2.2.2.1]
  by_cases c20 : c = 20
  · rw [if_pos c20, if_pos k10, a1]
    simp only [bI]
    rw [if_pos (by simp)]
  · rw [if_neg c20, if_pos k10, h.2.2.2.2.1, if_pos (by omega), if_pos k10, a1]
    simp only [bI]
    rw [if_pos (by simp)]
/-- one counted, and on -/
theorem l_saY (h : StM w m t n most A p c k wi) (hx : at1 t n most p) (hc : c < 20) (hw : 0 ≤ wi ∧ wi < 8) : ∃ w7, StM w7 m t n most A (tkT t n most p) (c + 1) k (wi + 1) ∧ Mf w w7 (smP m) ∧ (∀ x, gv w7 (m + 15) x = gv w (m + 15) x) ∧ sg (Ex pro (d + 3)) mX12_readSaid 2000 46 [some (rV m), some (iV (if atS t n most p 40 then 1 else 0)), some (iV (if 14 ≤ tkW t n most p then tkW t n most p - 1 else 23)), none] [] w =
   if atS t n most p 40 then bI (Ex pro (d + 3) 270 w7 [rV m]) (fun x w21 => if kd w21 m = 10 then (if kd w21 m = 10 then (if x = 0 ∨ x = 1 then some (.inr (some (iV x), sv w21 m 37 (w32 (gv w21 m 37 - 1)))) else none) else none) else none)
   else if tkW t n most p = 14 then bI (Ex pro (d + 3) 269 w7 [rV m]) (fun x w21 => if kd w21 m = 10 then (if kd w21 m = 10 then (if x = 0 ∨ x = 1 then some (.inr (some (iV x), sv w21 m 37 (w32 (gv w21 m 37 - 1)))) else none) else none) else none)
   else if tkW t n most p < 17 then bI (Ex pro (d + 3) 265 w7 [rV m, iV (49 + tkW t n most p), iV 0, iV 0, iV 0]) (fun x w11 => if kd w11 m = 10 then (if kd (sv w11 m 38 x) m = 10 then (if kd (sv w11 m 38 x) m = 10 then some (.inr (some (iV 1), sv (sv w11 m 38 x) m 37 (w32 (gv (sv w11 m 38 x) m 37 - 1)))) else none) else none) else none)
   else if tkW t n most p < 19 then bI (Ex pro (d + 3) 271 w7 [rV m, iV (tkW t n most p - 1)]) (fun x w21 => if kd w21 m = 10 then (if kd w21 m = 10 then (if x = 0 ∨ x = 1 then some (.inr (some (iV x), sv w21 m 37 (w32 (gv w21 m 37 - 1)))) else none) else none) else none)
   else bI (Ex pro (d + 3) 272 w7 [rV m, iV (tkW t n most p - 1)]) (fun x w21 => if kd w21 m = 10 then (if kd w21 m = 10 then (if x = 0 ∨ x = 1 then some (.inr (some (iV x), sv w21 m 37 (w32 (gv w21 m 37 - 1)))) else none) else none) else none) := by
  have k10 := h.k10
  have wr := tkW_rg t n most p
  have c20 := h.2.2.2.2.2
  have m5 := Mf.svI w m 36 (c + 1)
  have m6 := Mf.svI (sv w m 36 (c + 1)) m 37 (wi + 1)
  have m56 : Mf w (sv (sv w m 36 (c + 1)) m 37 (wi + 1)) (fun r j => r = m ∧ (j = 36 ∨ j = 37)) := (m5.trans m6).mono (fun r j z => by omega)
  have S6 : StM (sv (sv w m 36 (c + 1)) m 37 (wi + 1)) m t n most A p (c + 1) k (wi + 1) := by
    obtain ⟨h1, h2, h3, h4, h5, h6⟩ := h
    exact ⟨h1.mf m56 (fun j j0 j1 => by omega) (fun j => by omega), h2.mf m56 (fun j z => by omega) (by omega) (fun j => by omega), by rw [m56.gvE (by omega)]; exact h3, by rw [m6.gvE (by omega), gvSS], gvSS _ _ _ _, by omega⟩
  obtain ⟨w7, a1, a2, a3⟩ := o_nextM (d := d + 1) S6 (at1_k hx)
  refine ⟨w7, a2, (m56.trans a3).mono (fun r j z => by omega), fun x => by rw [a3.gvE (by omega), m56.gvE (by omega)], ?_⟩
  have k5 : kd (sv w m 36 (c + 1)) m = 10 := k10
  have k6 : kd (sv (sv w m 36 (c + 1)) m 37 (wi + 1)) m = 10 := k10
  have k7 := a2.k10
  have e37 : gv (sv w m 36 (c + 1)) m 37 = wi := by rw [m5.gvE (by omega)]; exact h.2.2.2.2.1
  rw [eX12_readSaid_46, if_pos k10, h.2.2.2.1, if_neg (by omega), if_pos k10, h.2.2.2.2.1, if_neg (by omega), if_pos k10, if_pos k10, w32_eq (x := c + 1) (by omega) (by omega), wl_eq, if_pos k5, if_pos k5, e37, w32_eq (x := wi + 1) (by omega) (by omega), wl_eq, if_pos k6, a1]
  simp only [bN, ite10, wl_eq]
  by_cases b : atS t n most p 40
  · rw [if_pos b, if_pos b, if_pos k7]
  · have h14 : 14 ≤ tkW t n most p := by
      rcases hx with z | z
      · exact absurd z b
      · exact z.1
    rw [if_neg b, if_neg b, if_pos h14]
    by_cases c1 : tkW t n most p = 14
    · rw [if_pos c1, if_pos (by omega), if_pos k7]
    · rw [if_neg c1, if_neg (by omega)]
      by_cases c2 : tkW t n most p < 17
      · rw [if_pos c2, if_pos (by omega), if_pos k7, w32_eq (x := 50 + (tkW t n most p - 1)) (by omega) (by omega), show 50 + (tkW t n most p - 1) = 49 + tkW t n most p by omega]
      · rw [if_neg c2, if_neg (by omega)]
        by_cases c3 : tkW t n most p < 19
        · rw [if_pos c3, if_pos (by omega), if_pos k7]
        · rw [if_neg c3, if_neg (by omega), if_pos k7]
/-- within one less -/
theorem PoM.less {w7 w' : sW} {R : Rs} {b b' : Int} (h : PoM w7 w' m t n most A R k (wi + 1) b) (hw : 0 ≤ wi ∧ wi < 8) (hf : Mf w w7 (smP m)) (he : ∀ x, gv w7 (m + 15) x = gv w (m + 15) x) (hb : R.1.1 = 0 → b + 2 * R.2.1 ≤ b' + 2 * R.2.1) : PoM w (sv w' m 37 (w32 (gv w' m 37 - 1))) m t n most A R k wi b' := by
  obtain ⟨h1, h2, h3⟩ := h
  have m1 := Mf.svI w' m 37 (w32 (gv w' m 37 - 1))
  refine ⟨h1.mf m1 (fun j j0 j1 => by omega) (fun j => by omega), hf.tr (h2.tr (m1.mono (fun r j z => by omega))), fun z => ?_⟩
  obtain ⟨k', ⟨s1, s2, s3, s4, s5, s6⟩, x2, x3, x4, x5⟩ := h3 z
  refine ⟨k', ⟨s1.mf m1 (fun j j0 j1 => by omega) (fun j => by omega), s2.mf m1 (fun j z => by omega) (by omega) (fun j => by omega), by rw [m1.gvE (by omega)]; exact s3, by rw [m1.gvE (by omega)]; exact s4, ?_, s6⟩, x2, ?_, fun x x0 x1 => by rw [m1.gvE (by omega), x4 x x0 x1, he], ?_⟩
  · rw [gvSS, s5, w32_eq (by omega) (by omega)]
    omega
  · have := hb z
    omega
  · rw [m1.gvE (by omega)]
    exact x5.to (Nat.le_refl _) (fun x x0 x1 => m1.gvE (by omega))
theorem PlM.po {w7 w' : sW} {S : Ts} {x : Sp} (h : PlM w7 w' m t n most A S x (c + 1) k (wi + 1)) (hb : (k : Int) ≤ 2 * c) : PoM w7 w' m t n most A (S, c + 1, plF x) k (wi + 1) (k - 2 * c - 1) := by
  obtain ⟨h1, h2, h3⟩ := h
  refine ⟨h1, h2, fun z => ?_⟩
  obtain ⟨s1, s2, s3⟩ := h3 z
  exact ⟨k + 1, s1, by omega, by show ((k + 1 : Nat) : Int) ≤ k - 2 * c - 1 + 2 * (c + 1); omega, fun x x0 x1 => s2 x x1, s3⟩
theorem o_said : ∀ (g d : Nat) (wi : Int), 4 * g ≤ d → wi + g = 8 → 0 ≤ wi → OneM (d + 9) m t n most A wi (saF t n most A g)
  | 0, d, wi, hd, hw, hw0 => fun w p c k h hk => by
    unfold saF PoM
    by_cases y : at1 t n most p
    · rw [if_pos y]
      obtain ⟨w', a1, a2, a3⟩ := l_sa4 (d := d + 5) h y (Or.inr (by omega))
      exact ⟨w', a1, a2, a3, fun z => absurd (show (4 : Int) = 0 from z) (by omega)⟩
    · rw [if_neg y]
      obtain ⟨w', a1, a2, a3⟩ := l_saX (d := d + 5) h y
      exact ⟨w', a1, a2, a3, fun z => absurd (show (1 : Int) = 0 from z) (by omega)⟩
  | g + 1, d, wi, hd, hw, hw0 => fun w p c k h hk => by
    obtain ⟨e, rfl⟩ : ∃ e, d = e + 4 := ⟨d - 4, by omega⟩
    have c20 := h.2.2.2.2.2
    have wr := tkW_rg t n most p
    unfold saF
    by_cases y : at1 t n most p
    · rw [if_pos y]
      by_cases yc : 20 ≤ c
      · rw [if_pos yc]
        obtain ⟨w', a1, a2, a3⟩ := l_sa4 (d := e + 9) h y (Or.inl (by omega))
        exact ⟨w', a1, a2, a3, fun z => absurd (show (4 : Int) = 0 from z) (by omega)⟩
      · rw [if_neg yc]
        obtain ⟨w7, S7, m7, e15, eq⟩ := l_saY (d := e + 9) h y (by omega) ⟨hw0, by omega⟩
        by_cases b : atS t n most p 40
        · rw [if_pos b]
          have eq := eq.trans (if_pos b)
          obtain ⟨w', b1, b2⟩ := o_readBr (d := e + 9) (o_readOr (d := e + 5) (o_said g e (wi + 1) (by omega) (by omega) (by omega)) (fun p c h0 hc h20 => saF_ok g p c h0 hc h20)) S7 (by omega)
          have k' : kd w' m = 10 := by rw [b2.2.1.kdE]; exact S7.k10
          refine ⟨_, l_saG h y (Rn.ret ?_), b2.less ⟨hw0, by omega⟩ m7 e15 (fun z => by omega)⟩
          rw [eq, b1]
          simp only [bI]
          rw [if_pos k', if_pos k', if_pos (okR_01 _)]
        · rw [if_neg b]
          have eq := eq.trans (if_neg b)
          have h14 : 14 ≤ tkW t n most p := by
            rcases y with z | z
            · exact absurd z b
            · exact z.1
          by_cases c14 : tkW t n most p = 14
          · rw [if_pos c14]
            have eq := eq.trans (if_pos c14)
            obtain ⟨w', b1, b2⟩ := o_readNot (d := e + 11) (o_said g (e + 2) (wi + 1) (by omega) (by omega) (by omega)) (by omega) S7 (by omega)
            have k' : kd w' m = 10 := by rw [b2.2.1.kdE]; exact S7.k10
            refine ⟨_, l_saG h y (Rn.ret ?_), b2.less ⟨hw0, by omega⟩ m7 e15 (fun z => by omega)⟩
            rw [eq, b1]
            simp only [bI]
            rw [if_pos k', if_pos k', if_pos (okR_01 _)]
          · rw [if_neg c14]
            have eq := eq.trans (if_neg c14)
            have k60 : k < 60 := by omega
            by_cases c17 : tkW t n most p < 17
            · have eq := eq.trans (if_pos c17)
              have sp : saP t n most A (tkW t n most p) (tkT t n most p) = ((0, 0, tkT t n most p), (tkW t n most p, 0, 0)) := by
                unfold saP
                rw [if_pos (by omega)]
              obtain ⟨w1, a1, a2, a3, a4, a5, a6⟩ := o_plNode (d := e + 11) (W := tkW t n most p) (s := 0) (v := 0) (a := 0) (b := 0) S7 k60 (by omega) (fun z => by omega) (fun _ => rfl)
              have pl : PlM w7 (sv w1 m 38 k) m t n most A (0, 0, tkT t n most p) (tkW t n most p, 0, 0) (c + 1) k (wi + 1) := ⟨a3.1, a4, fun _ => ⟨a3, a5, a6⟩⟩
              rw [sp]
              have po := (pl.po hk).less (w := w) (b' := k - 2 * c - 1) ⟨hw0, by omega⟩ m7 e15 (fun _ => Int.le_refl _)
              refine ⟨_, l_saG h y (Rn.ret ?_), po⟩
              rw [eq, a1]
              simp only [bI]
              rw [if_pos a2, if_pos (show kd (sv w1 m 38 k) m = 10 from a2), if_pos (show kd (sv w1 m 38 k) m = 10 from a2)]
              rfl
            · have eq := eq.trans (if_neg c17)
              by_cases c19 : tkW t n most p < 19
              · have eq := eq.trans (if_pos c19)
                obtain ⟨w', b1, b2⟩ := o_readOf (d := e + 7) (i := tkW t n most p - 1) S7 k60 (by omega)
                rw [show tkW t n most p - 1 + 1 = tkW t n most p by omega] at b1 b2
                have k' : kd w' m = 10 := by rw [b2.2.1.kdE]; exact S7.k10
                have po := (b2.po hk).less (w := w) (b' := k - 2 * c - 1) ⟨hw0, by omega⟩ m7 e15 (fun _ => Int.le_refl _)
                refine ⟨_, l_saG h y (Rn.ret ?_), po⟩
                rw [eq, b1]
                simp only [bI]
                rw [if_pos k', if_pos k', if_pos (okR_01 _)]
              · have eq := eq.trans (if_neg c19)
                obtain ⟨w', b1, b2⟩ := o_readCmp (d := e + 7) (i := tkW t n most p - 1) S7 k60 (by omega)
                rw [show tkW t n most p - 1 + 1 = tkW t n most p by omega] at b1 b2
                have k' : kd w' m = 10 := by rw [b2.2.1.kdE]; exact S7.k10
                have po := (b2.po hk).less (w := w) (b' := k - 2 * c - 1) ⟨hw0, by omega⟩ m7 e15 (fun _ => Int.le_refl _)
                refine ⟨_, l_saG h y (Rn.ret ?_), po⟩
                rw [eq, b1]
                simp only [bI]
                rw [if_pos k', if_pos k', if_pos (okR_01 _)]
    · rw [if_neg y]
      obtain ⟨w', a1, a2, a3⟩ := l_saX (d := e + 9) h y
      exact ⟨w', a1, a2, a3, fun z => absurd (show (1 : Int) = 0 from z) (by omega)⟩
end MSa
