/-! ===== image and restore called: the class ===== -/
section IM
variable {d : Nat} {w : sW} {q q' hk s k : Int} {A B : Rm} {H : Int → Rm} {b e bB : Bool} {f fB : Sb}
theorem p_imageX (h : ¬ (0 ≤ k ∧ k < 2)) : Ex pro (d + 1) 146 w [rV 32, iV k] = some (some (iV 0), w) := by
  refine xX11_image (Rn.ret ?_)
  rw [eX11_image_0]
  by_cases c : k < 0
  · rw [if_pos c]
  · rw [if_neg c, if_neg (by omega)]
/-- the copies -/
theorem l_img55 (h : NowI w 32 q A) (hq : q = 36 ∨ q = 53) (h5 : gv w 32 5 = s ∧ (s = 70 ∨ s = 75)) (hK : SeK w s A.1 b f) (hW : WordI w) (hI : ImSh w) (hk : 0 ≤ k ∧ k < 2) {a a' : Int} (ea : gv w 87 k = a) (ea' : gv w 88 k = a') (h1 : 108 ≤ a) (h2 : 108 ≤ a') (S8 : StSh w a) (S10 : SeSh w a') (dis : a + 16 < a' ∨ a' + 4 < a) : ∃ w', Rn (Ex pro (d + 2)) mX11_image (55, [some (rV 32), some (iV k)], [], w) (some (iV 1), w') ∧ StI w' a A ∧ SeK w' a' A.1 b f ∧ Mf w w' (fun r j => (a ≤ r ∧ r ≤ a + 16) ∨ (a' ≤ r ∧ r ≤ a' + 4)) := by
  obtain ⟨k9, g3, hS⟩ := h
  obtain ⟨⟨i1, i2, i3⟩, j1, j2, j3⟩ := hI
  obtain ⟨w1, a1, a2, a3⟩ := m_copyFrom (d := d) (w := w) (q := a) (q' := q) (by omega) S8 hS
  have a2m := a2.mf
  have K1 : SeK w1 s A.1 b f := hK.eq (a2m.eqO (fun r j r0 r1 z => by have z' : a ≤ r ∧ r ≤ a + 16 := z; omega))
  have W1 : WordI w1 := hW.eq (a2m.eqO (fun r j r0 r1 z => by have z' : a ≤ r ∧ r ≤ a + 16 := z; omega))
  have E1 : SeSh w1 a' := S10.eq (a2m.eqO (fun r j r0 r1 z => by have z' : a ≤ r ∧ r ≤ a + 16 := z; omega))
  obtain ⟨w2, b1, b2, b3, b4⟩ := t_seCopy (d := d + 1) (a := a') (a' := s) (by omega) (by omega) W1 E1 K1
  have v1 : ∀ r j, r < 108 → gv w1 r j = gv w r j := fun r j hr => a2.2.2 r j (by omega)
  refine ⟨w2, Rn.ret ?_, a3.mf b4 (fun r j r0 r1 => by omega), b2, (a2m.trans b4).mono (fun r j z => by
    rcases z with z | z
    · exact Or.inl z
    · omega)⟩
  have k91 : kd w1 32 = 9 := by rw [a2.kdE]; exact k9
  rw [eX11_image_55, if_pos k9, i1, if_pos ⟨by omega, by omega, by omega⟩, if_pos k9, ea, if_pos S8.1.1, g3, a1]
  simp only [bN]
  rw [if_pos k91, v1 _ _ (by omega), j1, if_pos ⟨by rw [a2.kdE]; omega, by omega, by rw [a2.lnE]; omega⟩, if_pos k91, v1 _ _ (by omega), ea', if_pos E1.1.1, v1 _ _ (by omega), h5.1, b1]
theorem p_image (h : CD w q A hk H) (hs : SpI w q q') (h5 : gv w 32 5 = s ∧ (s = 70 ∨ s = 75)) (hK : SeK w s A.1 b f) (hW : WordI w) (hI : ImSh w) (k2 : 0 ≤ k ∧ k < 2) (hC : ImC w k e B bB fB) : ∃ w', Ex pro (d + 3) 146 w [rV 32, iV k] = some (some (iV 1), w') ∧ CD w' q A hk H ∧ SpI w' q q' ∧ SeK w' s A.1 b f ∧ ImC w' k true A b f ∧ (∀ i, 0 ≤ i → i < 2 → i ≠ k → ∀ e' B' b' f', ImC w i e' B' b' f' → ImC w' i e' B' b' f') ∧ Ag w w' (imP w k) ∧ uc w' ≤ uc w + 22 ∧ us w' ≤ us w + 3406 := by
  obtain ⟨h1, hq, h8, hH, hO, hB, hn⟩ := h
  have k9 := h1.1
  have q3 := hs.2.2
  obtain ⟨⟨i1, i2, i3⟩, j1, j2, j3⟩ := hI
  have I0 : ImSh w := ⟨⟨i1, i2, i3⟩, j1, j2, j3⟩
  -- the rest, once the copies are made
  have fin : ∀ w', Ex pro (d + 3) 146 w [rV 32, iV k] = some (some (iV 1), w') → Ag w w' (imP w k) → ((gv w 87 k ≠ 0 ∧ gv w' 87 k = gv w 87 k) ∨ (nx w ≤ gv w' 87 k ∧ gv w' 87 k + 16 < nx w')) → ((gv w 88 k ≠ 0 ∧ gv w' 88 k = gv w 88 k) ∨ (nx w ≤ gv w' 88 k ∧ gv w' 88 k + 4 < nx w')) → (gv w' 87 k + 16 < gv w' 88 k ∨ gv w' 88 k + 4 < gv w' 87 k) → StI w' (gv w' 87 k) A → SeK w' (gv w' 88 k) A.1 b f → uc w' ≤ uc w + 22 → us w' ≤ us w + 3406 → ∃ w', Ex pro (d + 3) 146 w [rV 32, iV k] = some (some (iV 1), w') ∧ CD w' q A hk H ∧ SpI w' q q' ∧ SeK w' s A.1 b f ∧ ImC w' k true A b f ∧ (∀ i, 0 ≤ i → i < 2 → i ≠ k → ∀ e' B' b' f', ImC w i e' B' b' f' → ImC w' i e' B' b' f') ∧ Ag w w' (imP w k) ∧ uc w' ≤ uc w + 22 ∧ us w' ≤ us w + 3406 := fun w' x1 g x3 x4 x5 x6 x7 x8 x9 => by
    have b8 := hO.1 (8 + k) (by omega) (by omega)
    have b10 := hO.1 (10 + k) (by omega) (by omega)
    rw [ow87 w k2] at b8
    rw [ow88 w k2] at b10
    have S10 : SeSh w' (gv w' 88 k) := by
      obtain ⟨c, L, y, _⟩ := x7
      exact y.1
    obtain ⟨u1, u2⟩ := blk_up k2 hO hB hn g x3 x4 x5 x6.1 S10
    have n := g.1
    refine ⟨w', x1, ⟨h1.ag g hn hq (by omega) (fun r j r0 r1 => by omega), hq, by rw [g.gvE (by omega) (by omega) (by omega)]; exact h8, hH.im k2 hO hn g, u1, u2, by omega⟩, ⟨by rw [g.gvE (by omega) (by omega) (by omega)]; exact hs.1, hs.2.1.eq (g.eqO (by omega) (by omega) (fun r j r0 r1 => by omega)), q3⟩, hK.eq (g.eqO (by omega) (by omega) (fun r j r0 r1 => by omega)), ⟨fun z => Bool.noConfusion z, fun _ => ⟨by omega, by omega, x6, x7⟩⟩, fun i i0 i1 ik e' B' b' f' hC' => ?_, g, x8, x9⟩
    have e87 : gv w' 87 i = gv w 87 i := g.gvE (by omega) (by omega) (by omega)
    have e88 : gv w' 88 i = gv w 88 i := g.gvE (by omega) (by omega) (by omega)
    refine ⟨fun z => by rw [e87, e88]; exact hC'.1 z, fun z => ?_⟩
    obtain ⟨y1, y2, y3, y4⟩ := hC'.2 z
    have d8 := im_dis k2 hO (i := 8 + i) ⟨by omega, by omega⟩ (by omega) (by omega) (by rw [ow87 w ⟨i0, i1⟩]; exact y1)
    have d10 := im_dis k2 hO (i := 10 + i) ⟨by omega, by omega⟩ (by omega) (by omega) (by rw [ow88 w ⟨i0, i1⟩]; exact y2)
    rw [ow87 w ⟨i0, i1⟩, show sz (8 + i) = 16 from if_pos (by omega)] at d8
    rw [ow88 w ⟨i0, i1⟩, show sz (10 + i) = 4 from if_neg (by omega)] at d10
    rw [e87, e88]
    exact ⟨y1, y2, y3.eq (g.eqO (by omega) (by omega) d8.2), y4.eq (g.eqO (by omega) (by omega) d10.2)⟩
  cases e with
  | true =>
    obtain ⟨y1, y2, y3, y4⟩ := hC.2 rfl
    have b8 := hO.1 (8 + k) (by omega) (by omega)
    have b10 := hO.1 (10 + k) (by omega) (by omega)
    have bd := hO.2 (8 + k) (10 + k) (by omega) (by omega) (by omega) (by omega) (by omega)
    rw [show sz (8 + k) = 16 from if_pos (by omega), ow87 w k2] at b8 bd
    rw [show sz (10 + k) = 4 from if_neg (by omega), ow88 w k2] at b10 bd
    have S10 : SeSh w (gv w 88 k) := by
      obtain ⟨c, L, y, _⟩ := y4
      exact y.1
    obtain ⟨w', a1, a2, a3, a4⟩ := l_img55 (d := d) h1 hq h5 hK hW I0 k2 rfl rfl (by omega) (by omega) y3.1 S10 (by omega)
    have e87 : gv w' 87 k = gv w 87 k := a4.gvE (by omega)
    have e88 : gv w' 88 k = gv w 88 k := a4.gvE (by omega)
    refine fin w' (xX11_image (Rn.cut ?_ a1)) (a4.ag.mono (fun r j _ _ z => by omega)) (Or.inl ⟨y1, e87⟩) (Or.inl ⟨y2, e88⟩) (by omega) (by rw [e87]; exact a2) (by rw [e88]; exact a3) (by rw [a4.ucE]; omega) (by rw [a4.usE]; omega)
    rw [eX11_image_0, if_neg (by omega), if_pos k2.2, if_pos k9, i1, if_pos ⟨by omega, by omega, by omega⟩, if_neg y1, if_pos k9, j1, if_pos ⟨by omega, by omega, by omega⟩, if_neg y2]
  | false =>
    obtain ⟨y1, y2⟩ := hC.1 rfl
    have e1 : EqO w (al w 8 0 6) 0 (nx w - 1) := EqO.al (by omega)
    obtain ⟨w2, a1, a2, a3, a4, a5, a6⟩ := st_init (d := d) (w := al w 8 0 6) (s := nx w) (by omega) (by rw [kdL, if_pos rfl]) (by rw [nxL]) (by rw [gvL, if_pos rfl])
    have ag2 : Ag w w2 (fun _ _ => False) := (e1.trans a6).ag (by omega)
    have s3 := Ag.sv w2 87 k (nx w)
    have ag3 : Ag w (sv w2 87 k (nx w)) (fun r j => r = 87 ∧ j = k) := (ag2.trans s3).mono (fun r j _ _ z => z.elim False.elim id)
    have x3 : gv (sv w2 87 k (nx w)) 87 k = nx w := gvSS _ _ _ _
    have e3 : EqO w2 (sv w2 87 k (nx w)) 88 (nx w + 16) := EqO.sv (by omega)
    have S3 : StSh (sv w2 87 k (nx w)) (nx w) := a2.1.eq (e3.mono (by omega) (by omega))
    have n3 : nx (sv w2 87 k (nx w)) = nx w + 17 := by rw [nxS, a3]
    have u3 : uc (sv w2 87 k (nx w)) = uc w + 17 := by rw [ucS, a4, ucL]
    have v3 : us (sv w2 87 k (nx w)) = us w + 3240 := by rw [usS, a5, usL]
    generalize hw3 : sv w2 87 k (nx w) = w3 at ag3 x3 S3 n3 u3 v3
    have e4 : EqO w3 (al w3 7 0 6) 0 (nx w3 - 1) := EqO.al (by omega)
    obtain ⟨w5, c1, c2, c3, c4, c5, c6, c7, c8⟩ := se_init (d := d + 1) (w := al w3 7 0 6) (s := nx w3) (by omega) (by rw [kdL, if_pos rfl]) (by rw [nxL]) (by rw [gvL, if_pos rfl]) (by rw [gvL, if_pos rfl])
    have ag5 : Ag w3 w5 (fun _ _ => False) := (e4.trans c8).ag (by omega)
    have s6 := Ag.sv w5 88 k (nx w3)
    have ag6' : Ag w3 (sv w5 88 k (nx w3)) (fun r j => r = 88 ∧ j = k) := (ag5.trans s6).mono (fun r j _ _ z => z.elim False.elim id)
    have x6 : gv (sv w5 88 k (nx w3)) 88 k = nx w3 := gvSS _ _ _ _
    have e6 : EqO w5 (sv w5 88 k (nx w3)) 89 (nx w3 + 4) := EqO.sv (by omega)
    have S6' : SeSh (sv w5 88 k (nx w3)) (nx w3) := c2.eq (e6.mono (by omega) (by omega))
    have n6 : nx (sv w5 88 k (nx w3)) = nx w + 22 := by rw [nxS, c5]; omega
    have u6 : uc (sv w5 88 k (nx w3)) = uc w + 22 := by rw [ucS, c6, ucL]; omega
    have v6 : us (sv w5 88 k (nx w3)) = us w + 3406 := by rw [usS, c7, usL]; omega
    have z1 : kd w5 88 = 26 := by rw [ag5.kdE (by omega) (by omega), ag3.kdE (by omega) (by omega)]; exact j2
    have z2 : ln w5 88 = 2 := by rw [ag5.lnE (by omega) (by omega), ag3.lnE (by omega) (by omega)]; exact j3
    generalize hw6 : sv w5 88 k (nx w3) = w6 at ag6' x6 S6' n6 u6 v6
    have ag6 : Ag w w6 (imP w k) := (ag3.trans ag6').mono (fun r j _ _ z => by omega)
    have S6 : StSh w6 (nx w) := S3.eq (ag6'.eqO (by omega) (by omega) (fun r j r0 r1 => by omega))
    have x3' : gv w6 87 k = nx w := by rw [ag6'.gvE (by omega) (by omega) (by omega)]; exact x3
    have lowE : ∀ r, 0 ≤ r → r < 87 → kd w6 r = kd w r ∧ ln w6 r = ln w r ∧ ∀ j, gv w6 r j = gv w r j := fun r r0 r1 => ⟨by rw [ag6.kdE (by omega) (by omega)], by rw [ag6.lnE (by omega) (by omega)], fun j => ag6.gvE (by omega) (by omega) (by omega)⟩
    have I6 : ImSh w6 := ⟨⟨by rw [(lowE 32 (by omega) (by omega)).2.2]; exact i1, by rw [ag6.kdE (by omega) (by omega)]; exact i2, by rw [ag6.lnE (by omega) (by omega)]; exact i3⟩, by rw [(lowE 32 (by omega) (by omega)).2.2]; exact j1, by rw [ag6.kdE (by omega) (by omega)]; exact j2, by rw [ag6.lnE (by omega) (by omega)]; exact j3⟩
    obtain ⟨w', b1, b2, b3, b4⟩ := l_img55 (d := d) (w := w6) (h1.ag ag6 hn hq (by omega) (fun r j r0 r1 => by omega)) hq (by rw [(lowE 32 (by omega) (by omega)).2.2]; exact h5) (hK.eq (ag6.eqO (by omega) (by omega) (fun r j r0 r1 => by omega))) (hW.eq (ag6.eqO (by omega) (by omega) (fun r j r0 r1 => by omega))) I6 k2 x3' x6 (by omega) (by omega) S6 S6' (by omega)
    have agf : Ag w w' (imP w k) := (ag6.trans b4.ag).mono (fun r j r0 r1 z => by omega)
    have e87 : gv w' 87 k = nx w := by rw [b4.gvE (by omega)]; exact x3'
    have e88 : gv w' 88 k = nx w3 := by rw [b4.gvE (by omega)]; exact x6
    refine fin w' (xX11_image (Rn.cut ?_ b1)) agf (Or.inr ⟨by omega, by rw [b4.nxE]; omega⟩) (Or.inr ⟨by omega, by rw [b4.nxE]; omega⟩) (by omega) (by rw [e87]; exact b2) (by rw [e88]; exact b3) (by rw [b4.ucE]; omega) (by rw [b4.usE]; omega)
    have m1 : kd w2 87 = 25 := by rw [ag2.kdE (by omega) (by omega)]; exact i2
    have m2 : ln w2 87 = 2 := by rw [ag2.lnE (by omega) (by omega)]; exact i3
    have m3 : kd w3 32 = 9 := by rw [ag3.kdE (by omega) (by omega)]; exact k9
    have m4 : gv w3 32 10 = 88 := by rw [ag3.gvE (by omega) (by omega) (by omega)]; exact j1
    have m5 : kd w3 88 = 26 := by rw [ag3.kdE (by omega) (by omega)]; exact j2
    have m6 : ln w3 88 = 2 := by rw [ag3.lnE (by omega) (by omega)]; exact j3
    have m7 : gv w3 88 k = 0 := by rw [ag3.gvE (by omega) (by omega) (by omega)]; exact y2
    rw [eX11_image_0, if_neg (by omega), if_pos k2.2, if_pos k9, i1, if_pos ⟨by omega, by omega, by omega⟩, if_pos y1, if_pos k9, wl_eq, if_pos (by rw [kdL, if_pos rfl]), a1]
    simp only [bN]
    rw [if_pos ⟨Or.inr (Or.inl ⟨m1, a2.1.1.1⟩), by omega, by omega⟩, wl_eq, hw3, if_pos m3, m4, if_pos ⟨by omega, by omega, by omega⟩, if_pos m7, if_pos m3, wl_eq, if_pos (by rw [kdL, if_pos rfl]), c1]
    simp only []
    rw [if_pos ⟨Or.inr (Or.inr (Or.inl ⟨z1, c2.1.1⟩)), by omega, by omega⟩, wl_eq, hw6]
theorem p_restX (h : ¬ (0 ≤ k ∧ k < 2)) : Ex pro (d + 1) 147 w [rV 32, iV k] = some (some (iV 0), w) := by
  refine xX11_restore (Rn.ret ?_)
  rw [eX11_restore_0]
  by_cases c : k < 0
  · rw [if_pos c]
  · rw [if_neg c, if_neg (by omega)]
theorem p_rest0 (k9 : kd w 32 = 9) (hI : ImSh w) (k2 : 0 ≤ k ∧ k < 2) (hC : ImC w k false B bB fB) : Ex pro (d + 1) 147 w [rV 32, iV k] = some (some (iV 0), w) := by
  obtain ⟨⟨i1, i2, i3⟩, j1, j2, j3⟩ := hI
  refine xX11_restore (Rn.ret ?_)
  rw [eX11_restore_0, if_neg (by omega), if_pos k2.2, if_pos k9, i1, if_pos ⟨by omega, by omega, by omega⟩, if_pos (hC.1 rfl).1]
theorem p_rest1 (h : CD w q A hk H) (h5 : gv w 32 5 = s ∧ (s = 70 ∨ s = 75)) (hE : SeSh w s) (hW : WordI w) (hI : ImSh w) (k2 : 0 ≤ k ∧ k < 2) (hC : ImC w k true B bB fB) : ∃ w', Ex pro (d + 3) 147 w [rV 32, iV k] = some (some (iV 1), w') ∧ CD w' q B 0 H ∧ SeK w' s B.1 bB fB ∧ Mf w w' (fun r j => (q ≤ r ∧ r ≤ q + 16) ∨ (s ≤ r ∧ r ≤ s + 4) ∨ (r = 85 ∧ j = 2)) := by
  obtain ⟨h1, hq, h8, hH, hO, hB, hn⟩ := h
  obtain ⟨k9, g3, hS⟩ := h1
  obtain ⟨⟨i1, i2, i3⟩, j1, j2, j3⟩ := hI
  obtain ⟨y1, y2, y3, y4⟩ := hC.2 rfl
  have b8 := hO.1 (8 + k) (by omega) (by omega)
  have b10 := hO.1 (10 + k) (by omega) (by omega)
  rw [ow87 w k2] at b8
  rw [ow88 w k2] at b10
  obtain ⟨w1, a1, a2, a3⟩ := m_copyFrom (d := d) (w := w) (q := q) (q' := gv w 87 k) (by omega) hS.1 y3
  have a2m := a2.mf
  have v1 : ∀ r j, ¬ (q ≤ r ∧ r ≤ q + 16) → gv w1 r j = gv w r j := fun r j hr => a2.2.2 r j (by omega)
  have K1 : SeK w1 (gv w 88 k) B.1 bB fB := y4.eq (a2m.eqO (fun r j r0 r1 z => by have z' : q ≤ r ∧ r ≤ q + 16 := z; omega))
  have W1 : WordI w1 := hW.eq (a2m.eqO (fun r j r0 r1 z => by have z' : q ≤ r ∧ r ≤ q + 16 := z; omega))
  have E1 : SeSh w1 s := hE.eq (a2m.eqO (fun r j r0 r1 z => by have z' : q ≤ r ∧ r ≤ q + 16 := z; omega))
  obtain ⟨w2, b1, b2, b3, b4⟩ := t_seCopy (d := d + 1) (a := s) (a' := gv w 88 k) (by omega) (by omega) W1 E1 K1
  have m12 : Mf w w2 (fun r j => (q ≤ r ∧ r ≤ q + 16) ∨ (s ≤ r ∧ r ≤ s + 4)) := (a2m.trans b4).mono (fun r j z => by
    rcases z with z | z
    · exact Or.inl z
    · omega)
  have kd85 : kd w2 85 = 3 := by rw [m12.kdE]; exact hH.1.1
  have m3 := Mf.svI w2 85 2 0
  have mm : Mf w (sv w2 85 2 0) (fun r j => (q ≤ r ∧ r ≤ q + 16) ∨ (s ≤ r ∧ r ≤ s + 4) ∨ (r = 85 ∧ j = 2)) := (m12.trans m3).mono (fun r j z => by omega)
  have g := mm.ag
  have S3 : StI (sv w2 85 2 0) q B := (a3.mf b4 (fun r j r0 r1 => by omega)).mf m3 (fun r j r0 r1 => by omega)
  have H3 : HsI (sv w2 85 2 0) 0 H := by
    obtain ⟨⟨k1, k2, k3, k4⟩, g2, g3, ol, g4, g5, g6⟩ := hH
    exact ⟨⟨by rw [mm.kdE]; exact k1, by rw [mm.gvE (by omega)]; exact k2, by rw [mm.kdE]; exact k3, by rw [mm.lnE]; exact k4⟩, gvSS _ _ _ _, by omega, ol, by rw [mm.gvE (by omega)]; exact g4, g5, fun i i0 i1 => by omega⟩
  refine ⟨sv w2 85 2 0, xX11_restore (Rn.ret ?_), ⟨⟨by rw [mm.kdE]; exact k9, by rw [mm.gvE (by omega)]; exact g3, S3⟩, hq, by rw [mm.gvE (by omega)]; exact h8, H3, hO.ag g hn (fun r j z => by omega), hB.ag hO g hn (fun r j z => by omega), by rw [mm.nxE]; exact hn⟩, b2.eq (m3.eqO (fun r j r0 r1 => by omega)), mm⟩
  have k91 : kd w1 32 = 9 := by rw [a2.kdE]; exact k9
  have k92 : kd w2 32 = 9 := by rw [m12.kdE]; exact k9
  rw [eX11_restore_0, if_neg (by omega), if_pos k2.2, if_pos k9, i1, if_pos ⟨by omega, by omega, by omega⟩, if_neg y1, if_pos k9, j1, if_pos ⟨by omega, by omega, by omega⟩, if_neg y2, if_pos k9, if_pos k9, if_pos ⟨by omega, by omega, by omega⟩, g3, if_pos hS.1.1.1, a1]
  simp only [bN]
  rw [if_pos k91, if_pos k91, v1 _ _ (by omega), j1, if_pos ⟨by rw [a2.kdE]; omega, by omega, by rw [a2.lnE]; omega⟩, v1 _ _ (by omega), h5.1, if_pos E1.1.1, v1 _ _ (by omega), b1]
  simp only []
  rw [if_pos k92, m12.gvE (by omega), h8, if_pos kd85, p_forget kd85]
end IM
