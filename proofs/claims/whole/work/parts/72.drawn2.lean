/-! ===== drawn, called ===== -/
section DN2
variable {d : Nat} {w : sW} {m q q' : Int} {A : Rm} {hk : Int} {H : Int → Rm}
theorem q_drawn (h : MSh w m) (hA : MoI w m A) (hh : HsM w m hk H) (n x : Int) : ∃ w', Ex pro (d + 9) 253 w [rV m, iV n, iV x] = some (some (iV (drY A n x)), w') ∧ MoI w' m (drA A n x) ∧ HsM w' m (drK A n x hk) (drH A n x hk H) ∧ Mf w w' (drwP m) := by
  have m32 := h.1.2
  have mf0 := Mf.svI w m 0 0
  have h0 := h.t0
  have A0' := hA.t0
  have H0 := hh.t0
  have k0 := h0.1.1
  unfold drY drA drK drH
  by_cases v : 1 ≤ n ∧ n ≤ 60
  · rw [if_pos v]
    by_cases z : A.1 = 0
    · rw [if_pos z, if_neg (show ¬ drV A n from fun y => y.2 z), if_neg (fun y => y.1.2 z), if_neg (fun y => y.1.2 z)]
      refine ⟨sv w m 0 0, xX12_drawn (Rn.ret ?_), A0', H0, mf0.mono (fun r j z => by omega)⟩
      rw [eX12_drawn_0, if_pos h.1.1, wl_eq, o_isIn]
      simp only [bI, ite10]
      rw [if_pos v, if_pos k0, if_pos (A0'.1.g (by omega) (by omega)), A0'.1.2.1, A0'.2.1, if_pos z]
    · have hA4 := hA.2.2.2.1
      have dv' : drV A n := ⟨v, z⟩
      rw [if_neg z, if_pos dv']
      have q7 := h0.2.2.2.2.2.2.2.1
      have s1 := o_save (d := d + 7) h0.nw (N := m + 7) (f := 0) ⟨q7.2.1, by omega, by rw [q7.2.2]; omega, by rw [q7.2.2]; omega⟩ (by omega) (by omega) (by omega)
      have mf1 := Mf.saI (sv w m 0 0) (m + 7) (fun x => if 0 ≤ x ∧ x < 0 + 3213 then gv (sv w m 0 0) (m + 2) (2607 + (x - 0)) else gv (sv w m 0 0) (m + 7) x)
      generalize hw1 : sa (sv w m 0 0) (m + 7) (fun x => if 0 ≤ x ∧ x < 0 + 3213 then gv (sv w m 0 0) (m + 2) (2607 + (x - 0)) else gv (sv w m 0 0) (m + 7) x) = w1 at s1 mf1
      have S1 : SnI (gv w1 (m + 7)) 0 A := SnI.mk A0'.2 (fun x x0 x1 => by rw [← hw1, gvA, if_pos rfl, if_pos (by omega), show 2607 + (0 + (x - 2607) - 0) = x by omega])
      have mf2 := Mf.svI w1 m 29 x
      have mf : Mf (sv w m 0 0) (sv w1 m 29 x) (fun r j => r = m + 7 ∨ (r = m ∧ j = 29)) := mf1.trans mf2
      have k1 : kd w1 m = 10 := by rw [mf1.kdE]; exact k0
      obtain ⟨w', b1, b2, b3, b4⟩ := l_mDrawn (d := d) (m := m) (hk := hk) (H := H) (B := A) v.2 n.toNat 0 0 (sv w1 m 29 x) A x (by omega) (by omega) (by omega) (by omega) (h0.mf mf (fun j hj => by omega)) (A0'.mf mf (by omega) (fun j hj => by omega)) (H0.mf mf (by omega) (fun j => by omega)) (by rw [show gv (sv w1 m 29 x) (m + 7) = gv w1 (m + 7) from funext fun y => mf2.gvE (by omega)]; exact S1) rfl rfl (gvSS _ _ _ _) (by omega) (drF_le n.toNat A x 0).2.2
      have eK : (if drV A n ∧ 0 < (drF n.toNat A x 0).2 then pushK hk else hk) = if 0 < (drF n.toNat A x 0).2 then pushK hk else hk := by
        by_cases y : 0 < (drF n.toNat A x 0).2
        · rw [if_pos y, if_pos ⟨dv', y⟩]
        · rw [if_neg y, if_neg (fun u => y u.2)]
      have eH : (if drV A n ∧ 0 < (drF n.toNat A x 0).2 then pushH hk H A else H) = if 0 < (drF n.toNat A x 0).2 then pushH hk H A else H := by
        by_cases y : 0 < (drF n.toNat A x 0).2
        · rw [if_pos y, if_pos ⟨dv', y⟩]
        · rw [if_neg y, if_neg (fun u => y u.2)]
      refine ⟨w', xX12_drawn (Rn.cut ?_ b1), b2, by rw [eK, eH]; exact b3, (mf0.trans (mf.trans b4)).mono (fun r j z => by omega)⟩
      rw [eX12_drawn_0, if_pos h.1.1, wl_eq, o_isIn]
      simp only [bI, ite10]
      rw [if_pos v, if_pos k0, if_pos (A0'.1.g (by omega) (by omega)), A0'.1.2.1, A0'.2.1, if_neg z, if_pos k0, if_pos k0, q7.1, s1]
      simp only [bN]
      rw [if_pos k1, wl_eq]
  · rw [if_neg v, if_neg (show ¬ drV A n from fun y => v y.1), if_neg (fun y => v y.1.1), if_neg (fun y => v y.1.1)]
    refine ⟨sv w m 0 0, xX12_drawn (Rn.ret ?_), A0', H0, mf0.mono (fun r j z => by omega)⟩
    rw [eX12_drawn_0, if_pos h.1.1, wl_eq, o_isIn]
    simp only [bI, ite10]
    rw [if_neg v]
theorem p_deed0 {g : Int} (h : StI w q A) (hA : A.1 = 0) : Ex pro (d + 1) 7 w [rV g, rV q] = some (some (iV 0), w) := by
  refine xX1_deedOn (Rn.ret ?_)
  rw [eX1_deedOn_0, if_pos h.1.1.1, h.2.1.1, if_pos hA]
/-- the loop of the class, up to its end -/
theorem l_drawn {g n : Int} (q36 : q = 36 ∨ q = 53) (hg : 108 ≤ g) (hn : n ≤ 60) : ∀ (f : Nat) (k c : Int) (w : sW) (A : Rm) (x : Int), k + f = n → 0 ≤ k → 0 ≤ c → c ≤ k → NowI w 32 q A → kd w g = 2 → gv w g 0 = x → 1 ≤ A.1 → ∃ w', (∀ res, Rn (Ex pro (d + 6)) mX11_drawn (39, [some (rV 32), some (iV n), none, some (rV g), some (iV (drF f A x c).2), some (iV n)], [], w') res → Rn (Ex pro (d + 6)) mX11_drawn (39, [some (rV 32), some (iV n), none, some (rV g), some (iV c), some (iV k)], [], w) res) ∧ NowI w' 32 q (drF f A x c).1 ∧ Mf w w' (fun r j => (r = g ∧ j = 0) ∨ (q ≤ r ∧ r ≤ q + 16))
  | 0, k, c, w, A, x, hf, h0, hc, hck, hN, hk, hx, hA => by
    refine ⟨w, fun res r => ?_, hN, Mf.refl _ _⟩
    rw [show n = k by omega] at r ⊢
    exact r
  | f + 1, k, c, w, A, x, hf, h0, hc, hck, hN, hk, hx, hA => by
    obtain ⟨w1, a1, a2, a3, a4⟩ := p_deedOn (d := d) hN.2.2 hk hx (by omega) hA
    have N1 : NowI w1 32 q (dwA A x) := ⟨by rw [a4.kdE]; exact hN.1, by rw [a4.gvE (by omega)]; exact hN.2.1, a2⟩
    obtain ⟨w', b1, b2, b3⟩ := l_drawn q36 hg hn f (k + 1) (if dwOk A x then c + 1 else c) w1 (dwA A x) (dwX x) (by omega) (by omega) (by split <;> omega) (by split <;> omega) N1 (by rw [a4.kdE]; exact hk) a3 (by rw [(dwA_keep A x).1]; exact hA)
    refine ⟨w', fun res r => Rn.cut ?_ (b1 res r), b2, a4.tr b3⟩
    rw [eX11_drawn_39, if_pos (by omega), if_pos hN.1, if_pos hk, hN.2.1, a1]
    simp only [bI, ite10]
    rw [w32_eq (x := c + 0) (by omega) (by omega), w32_eq (x := c + 1) (by omega) (by omega), w32_eq (x := k + 1) (by omega) (by omega), Int.add_zero]
    split <;> rfl
theorem l_drawn0 {g n : Int} (hn : n ≤ 60) (hN : NowI w 32 q A) (hk : kd w g = 2) (hA : A.1 = 0) {res : Option sV × sW} : ∀ (f : Nat) (k : Int), k + f = n → 0 ≤ k → Rn (Ex pro (d + 6)) mX11_drawn (39, [some (rV 32), some (iV n), none, some (rV g), some (iV 0), some (iV n)], [], w) res → Rn (Ex pro (d + 6)) mX11_drawn (39, [some (rV 32), some (iV n), none, some (rV g), some (iV 0), some (iV k)], [], w) res
  | 0, k, hf, h0, r => by
    rw [show n = k by omega] at r ⊢
    exact r
  | f + 1, k, hf, h0, r => by
    refine Rn.cut ?_ (l_drawn0 hn hN hk hA f (k + 1) (by omega) (by omega) r)
    rw [eX11_drawn_39, if_pos (by omega), if_pos hN.1, if_pos hk, hN.2.1, p_deed0 hN.2.2 hA]
    simp only [bI]
    rw [if_pos trivial, w32_eq (x := k + 1) (by omega) (by omega)]
    rfl
/-- the room that is set aside -/
abbrev SpI (w : sW) (q q' : Int) : Prop := gv w 32 4 = q' ∧ StSh w q' ∧ ((q = 36 ∧ q' = 53) ∨ (q = 53 ∧ q' = 36))
abbrev drC (w : sW) (k r j : Int) : Prop := (36 ≤ r ∧ r ≤ 69) ∨ (r = 85 ∧ (j = 1 ∨ j = 2)) ∨ (r = 86 ∧ j = k) ∨ (gv w 86 k ≠ 0 ∧ gv w 86 k ≤ r ∧ r ≤ gv w 86 k + 16)
theorem p_drawn (h : CD w q A hk H) (hs : SpI w q q') (n x : Int) : ∃ w' k, Ex pro (d + 7) 141 w [rV 32, iV n, iV x] = some (some (iV (drY A n x)), w') ∧ CD w' q (drA A n x) (drK A n x hk) (drH A n x hk H) ∧ SpI w' q q' ∧ (0 ≤ k ∧ k < 8) ∧ Ag w w' (drC w k) ∧ uc w' ≤ uc w + 18 ∧ us w' ≤ us w + 3241 := by
  obtain ⟨h1, h2, h3, h4, h5, h6, h7⟩ := h
  obtain ⟨s1, s2, s3⟩ := hs
  unfold drY drA drK drH
  by_cases v : 1 ≤ n ∧ n ≤ 60
  · rw [if_pos v]
    obtain ⟨w1, a1, a2, a3⟩ := m_copyFrom (d := d + 4) (q := q') (q' := q) (by omega) s2 h1.2.2
    have hx1 : nx w1 = nx w := a2.nxE
    have N1 : NowI w1 32 q A := h1.ag a2.ag h7 h2 (by omega) (fun r j r0 r1 => by omega)
    have ag2 : Ag w1 (sv (al w1 2 0 1) (nx w1) 0 x) (fun _ _ => False) := ⟨by rw [nxS, nxL]; omega, fun r r0 r1 => by
      show (if r = w1.2.2.1 then ((2 : Int), (0 : Int)) else w1.1 r) = w1.1 r
      rw [if_neg (by have : nx w1 = w1.2.2.1 := rfl; omega)], fun r j r0 r1 _ => by rw [gvS, if_neg (by omega), gvL, if_neg (by omega)]⟩
    generalize hw3 : sv (al w1 2 0 1) (nx w1) 0 x = w3 at ag2
    have n3 : nx w3 = nx w + 1 := by rw [← hw3, nxS, nxL, hx1]
    have k3 : kd w3 (nx w1) = 2 := by rw [← hw3, kdS, kdL, if_pos rfl]
    have x3 : gv w3 (nx w1) 0 = x := by rw [← hw3, gvSS]
    have N3 : NowI w3 32 q A := N1.ag ag2 (by omega) h2 (fun z => z) (fun r j _ _ z => z)
    have S3 : StI w3 q' A := a3.eq (ag2.eqO (by omega) (by omega) (fun r j _ _ z => z))
    have ag3 : Ag w w3 (fun r j => q' ≤ r ∧ r ≤ q' + 16) := (a2.ag.trans ag2).mono (fun r j _ _ z => z.elim id False.elim)
    have i1 : Ex pro (d + 6) 5 (al w1 2 0 1) [rV (nx w1), iV x] = some (none, w3) := by
      refine xX1_init (Rn.ret ?_)
      have : kd (al w1 2 0 1) (nx w1) = 2 := by rw [kdL, if_pos rfl]
      rw [eX1_init_0, if_pos this, if_pos this, wl_eq, hw3]
    have start : ∀ res, Rn (Ex pro (d + 6)) mX11_drawn (39, [some (rV 32), some (iV n), none, some (rV (nx w1)), some (iV 0), some (iV 0)], [], w3) res → Rn (Ex pro (d + 6)) mX11_drawn (0, [some (rV 32), some (iV n), some (iV x), none, none, none], [], w) res := fun res r => by
      refine Rn.cut ?_ r
      rw [eX11_drawn_0, if_neg (by omega), if_neg (by omega), if_pos h1.1, if_pos h1.1, s1, if_pos s2.1.1, h1.2.1, a1]
      simp only [bN]
      rw [wl_eq, if_pos (by rw [kdL, if_pos rfl]), i1]
    by_cases z : A.1 = 0
    · rw [if_pos z, if_neg (show ¬ drV A n from fun y => y.2 z), if_neg (fun y => y.1.2 z), if_neg (fun y => y.1.2 z)]
      refine ⟨w3, 0, xX11_drawn (start _ (l_drawn0 (d := d) (w := w3) (g := nx w1) v.2 N3 k3 z n.toNat 0 (by omega) (by omega) (Rn.ret ?_))), ⟨N3, h2, by rw [ag3.gvE (by omega) (by omega) (by omega)]; exact h3, h4.ag h5 ag3 h7 (fun r j hr => by omega), h5.ag ag3 h7 (fun r j hr => by omega), h6.ag h5 ag3 h7 (fun r j hr => by omega), by omega⟩, ⟨by rw [ag3.gvE (by omega) (by omega) (by omega)]; exact s1, S3.1, s3⟩, by omega, ag3.mono (fun r j r0 r1 y => by omega), ?_, ?_⟩
      · rw [eX11_drawn_39, if_neg (by omega), if_neg (by omega)]
      · rw [← hw3, ucS, ucL, a2.ucE]; omega
      · rw [← hw3, usS, usL, a2.usE]; omega
    · have hA4 := h1.2.2.2.2.1
      have dv' : drV A n := ⟨v, z⟩
      rw [if_neg z, if_pos dv']
      have kp := drF_keep n.toNat A x 0
      have le := drF_le n.toNat A x 0
      obtain ⟨w4, b1, b2, b3⟩ := l_drawn (d := d) h2 (g := nx w1) (by omega) v.2 n.toNat 0 0 w3 A x (by omega) (by omega) (by omega) (by omega) N3 k3 x3 (by omega)
      have ag4 : Ag w w4 (fun r j => 36 ≤ r ∧ r ≤ 69) := (ag3.trans b3.ag).mono (fun r j r0 r1 y => by
        rcases y with y | y | y
        · have y' : q' ≤ r ∧ r ≤ q' + 16 := y
          omega
        · omega
        · omega)
      have n4 : nx w4 = nx w + 1 := by rw [b3.nxE, n3]
      have H4 := h4.ag h5 ag4 h7 (fun r j hr => by omega)
      have B4 := h5.ag ag4 h7 (fun r j hr => by omega)
      have S4 := h6.ag h5 ag4 h7 (fun r j hr => by omega)
      have Q4 : StI w4 q' A := S3.eq (b3.eqO (fun r j r0 r1 => by omega))
      have p4 : gv w4 32 4 = q' := by rw [ag4.gvE (by omega) (by omega) (by omega)]; exact s1
      have p8 : gv w4 32 8 = 85 := by rw [ag4.gvE (by omega) (by omega) (by omega)]; exact h3
      have u4 : uc w4 = uc w + 1 := by rw [b3.ucE, ← hw3, ucS, ucL, a2.ucE]
      have v4 : us w4 = us w + 1 := by rw [b3.usE, ← hw3, usS, usL, a2.usE]
      by_cases y : 0 < (drF n.toNat A x 0).2
      · rw [if_pos ⟨dv', y⟩, if_pos ⟨dv', y⟩]
        obtain ⟨w5, k, c1, c2, c3, c4, c5, c6, c7, c8⟩ := h_keep (d := d + 3) H4 B4 S4 Q4 (by omega) (by omega)
        have b5 := B4.1 k c2.1 (by omega)
        have e5 : ow w4 k = gv w4 86 k := ow8 w4 c2.2
        have g86 : gv w4 86 k = gv w 86 k := ag4.gvE (by omega) (by omega) (by omega)
        have hx5 : 108 ≤ nx w5 := by have := c6.1; omega
        refine ⟨w5, k, xX11_drawn (start _ (b1 _ (Rn.ret ?_))), ⟨b2.ag c6 (by omega) h2 (by omega) (fun r j r0 r1 => by omega), h2, by rw [c6.gvE (by omega) (by omega) (by omega)]; exact p8, c3, c4, c5, hx5⟩, ⟨by rw [c6.gvE (by omega) (by omega) (by omega)]; exact p4, Q4.1.eq (c6.eqO (by omega) (by omega) (fun r j r0 r1 => by omega)), s3⟩, c2, (ag4.trans c6).mono (fun r j r0 r1 u => ?_), by omega, by omega⟩
        · rw [eX11_drawn_39, if_neg (by omega), if_pos y, if_pos b2.1, if_pos b2.1, p8, if_pos H4.1.1, p4, c1]
          simp only [bN]
        · rw [g86] at u
          exact u
      · rw [if_neg (fun u => y u.2), if_neg (fun u => y u.2)]
        refine ⟨w4, 0, xX11_drawn (start _ (b1 _ (Rn.ret ?_))), ⟨b2, h2, p8, H4, B4, S4, by omega⟩, ⟨p4, Q4.1, s3⟩, by omega, ag4.mono (fun r j r0 r1 u => Or.inl u), by omega, by omega⟩
        rw [eX11_drawn_39, if_neg (by omega), if_neg y]
  · rw [if_neg v, if_neg (show ¬ drV A n from fun y => v y.1), if_neg (fun y => v y.1.1), if_neg (fun y => v y.1.1)]
    refine ⟨w, 0, xX11_drawn (Rn.ret ?_), ⟨h1, h2, h3, h4, h5, h6, h7⟩, ⟨s1, s2, s3⟩, by omega, Ag.refl _ _, by omega, by omega⟩
    rw [eX11_drawn_0]
    by_cases c : n < 1
    · rw [if_pos c]
    · rw [if_neg c, if_pos (by omega)]
end DN2
