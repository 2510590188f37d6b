/-! ===== constructors (printed by wip/whole/ctor.py) ===== -/
theorem sg_arr {w : sW} {o f kind len r : Int} {n : Nat} (hr : nx w = r) (h32 : 0 ≤ o ∧ o < r) : nx (sv (al w kind len n) o f r) = r + 1 ∧ uc (sv (al w kind len n) o f r) = uc w + 1 ∧ us (sv (al w kind len n) o f r) = us w + n ∧ Ag w (sv (al w kind len n) o f r) (fun a j => a = o ∧ j = f) ∧ gv (sv (al w kind len n) o f r) o f = r ∧ kd (sv (al w kind len n) o f r) r = kind ∧ ln (sv (al w kind len n) o f r) r = len ∧ (∀ j, gv (sv (al w kind len n) o f r) r j = 0) ∧ kd (al w kind len n) o = kd w o := by
  refine ⟨by rw [nxS, nxL, hr], by rw [ucS, ucL], by rw [usS, usL], ?_, gvSS _ _ _ _, by rw [kdS, kdL, if_pos hr.symm], by rw [lnS, lnL, if_pos hr.symm], fun j => by rw [gvS, if_neg (by omega), gvL, if_pos hr.symm], by rw [kdL, if_neg (by omega)]⟩
  exact ((Ag.al w kind len n).trans (Ag.sv (al w kind len n) o f r)).mono (fun a j _ _ z => z.elim False.elim id)
theorem sg_obj {w w' : sW} {o f c r r' : Int} {n : Nat} (hr : nx w = r) (e : EqO (al w c 0 n) w' 0 (r - 1)) (hn : nx w' = r') (h32 : 0 ≤ o ∧ o < r) (hrr : r ≤ r') : nx (sv w' o f r) = r' ∧ uc (sv w' o f r) = uc w' ∧ us (sv w' o f r) = us w' ∧ Ag w (sv w' o f r) (fun a j => a = o ∧ j = f) ∧ gv (sv w' o f r) o f = r ∧ kd w' o = kd w o ∧ Ag w' (sv w' o f r) (fun a j => a = o ∧ j = f) := by
  have e1 : EqO w (al w c 0 n) 0 (nx w - 1) := EqO.al (by omega)
  have a1 : Ag w w' (fun _ _ => False) := (e1.trans (e.mono (by omega) (by omega))).ag (by omega)
  refine ⟨by rw [nxS, hn], by rw [ucS], by rw [usS], (a1.trans (Ag.sv w' o f r)).mono (fun a j _ _ z => z.elim False.elim id), gvSS _ _ _ _, a1.kdE (by omega) (by omega), Ag.sv w' o f r⟩
section CT
variable {d : Nat} {w : sW}
theorem bk_init {s : Int} (hs : 32 ≤ s) (hk : kd w s = 1) (hn : nx w = s + 1) (h4 : gv w s 4 = 0) (h5 : gv w s 5 = 0) : ∃ w', Ex pro (d + 1) 0 w [rV s] = some (none, w') ∧ (kd w' s = 1 ∧ gv w' s 0 = s + 1 ∧ gv w' s 1 = s + 2 ∧ gv w' s 2 = s + 3 ∧ gv w' s 3 = s + 4) ∧ (kd w' (s + 1) = 27 ∧ ln w' (s + 1) = 40) ∧ (kd w' (s + 2) = 20 ∧ ln w' (s + 2) = 40) ∧ (kd w' (s + 3) = 20 ∧ ln w' (s + 3) = 40) ∧ (kd w' (s + 4) = 20 ∧ ln w' (s + 4) = 40) ∧ gv w' s 4 = 0 ∧ nx w' = s + 5 ∧ uc w' = uc w + 4 ∧ us w' = us w + 160 ∧ EqO w w' 0 (s - 1) := by
  refine ⟨sv (al (sv (al (sv (al (sv (al w 27 40 40) s 0 (s + 1)) 20 40 40) s 1 (s + 2)) 20 40 40) s 2 (s + 3)) 20 40 40) s 3 (s + 4), xX0_init (Rn.ret ?_), ?_, ?_, ?_, ?_, ?_, ?_, ?_, ?_, ?_, ?_⟩
  · rw [eX0_init_0]
    simp only [wl_eq, kdS, kdL, nxS, nxL, hn, hk]
    rw [show s + 1 + 1 = s + 2 by omega, show s + 2 + 1 = s + 3 by omega, show s + 3 + 1 = s + 4 by omega, show (40 : Int).toNat = 40 from rfl]
    grind
  · simp only [kdS, kdL, lnS, lnL, gvS, gvL, nxS, nxL, hn, hk]
    grind
  · simp only [kdS, kdL, lnS, lnL, gvS, gvL, nxS, nxL, hn, hk]
    grind
  · simp only [kdS, kdL, lnS, lnL, gvS, gvL, nxS, nxL, hn, hk]
    grind
  · simp only [kdS, kdL, lnS, lnL, gvS, gvL, nxS, nxL, hn, hk]
    grind
  · simp only [kdS, kdL, lnS, lnL, gvS, gvL, nxS, nxL, hn, hk]
    grind
  · simp only [gvS, gvL, nxS, nxL, hn, h4]; grind
  · simp only [nxS, nxL, hn]; omega
  · simp only [ucS, ucL]
  · simp only [usS, usL]
  · exact ((((EqO.al (by omega)).trans (EqO.sv (by omega))).trans ((EqO.al (by simp only [nxS, nxL]; omega)).trans (EqO.sv (by omega)))).trans ((EqO.al (by simp only [nxS, nxL]; omega)).trans (EqO.sv (by omega)))).trans ((EqO.al (by simp only [nxS, nxL]; omega)).trans (EqO.sv (by omega)))
theorem hi_init {s : Int} (hs : 32 ≤ s) (hk : kd w s = 3) (hn : nx w = s + 1) (h1 : gv w s 1 = 0) (h2 : gv w s 2 = 0) : ∃ w', Ex pro (d + 1) 10 w [rV s] = some (none, w') ∧ (kd w' s = 3 ∧ gv w' s 0 = s + 1 ∧ kd w' (s + 1) = 25 ∧ ln w' (s + 1) = 8) ∧ (gv w' s 1 = 0 ∧ gv w' s 2 = 0) ∧ (∀ j, gv w' (s + 1) j = 0) ∧ nx w' = s + 2 ∧ uc w' = uc w + 1 ∧ us w' = us w + 8 ∧ EqO w w' 0 (s - 1) := by
  have a := sg_arr (w := w) (o := s) (f := 0) (kind := 25) (len := 8) (r := s + 1) (n := 8) hn (by omega)
  have ka : kd (al w 25 8 8) s = 3 := by rw [a.2.2.2.2.2.2.2.2]; exact hk
  have e1 : EqO w (al w 25 8 8) 0 (s - 1) := EqO.al (by omega)
  have e2 : EqO (al w 25 8 8) (sv (al w 25 8 8) s 0 (s + 1)) 0 (s - 1) := EqO.sv (by omega)
  refine ⟨sv (al w 25 8 8) s 0 (s + 1), xX3_init (Rn.ret ?_), ⟨ka, a.2.2.2.2.1, a.2.2.2.2.2.1, a.2.2.2.2.2.2.1⟩, ⟨by rw [a.2.2.2.1.gvE (by omega) (by omega) (by omega)]; exact h1, by rw [a.2.2.2.1.gvE (by omega) (by omega) (by omega)]; exact h2⟩, a.2.2.2.2.2.2.2.1, by rw [a.1]; omega, a.2.1, a.2.2.1, e1.trans e2⟩
  rw [eX3_init_0, if_pos hk, if_pos (by decide), wl_eq, show (8 : Int).toNat = 8 from rfl, if_pos ka, hn, wl_eq]
theorem rd_init {s : Int} (hs : 32 ≤ s) (hk : kd w s = 4) (hn : nx w = s + 1) : ∃ w', Ex pro (d + 1) 14 w [rV s] = some (none, w') ∧ kd w' s = 4 ∧ nx w' = s + 2 ∧ uc w' = uc w + 1 ∧ us w' = us w + 0 ∧ EqO w w' 0 (s - 1) := by
  have a := sg_arr (w := w) (o := s) (f := 0) (kind := 20) (len := 0) (r := s + 1) (n := 0) hn (by omega)
  have ka : kd (al w 20 0 0) s = 4 := by rw [a.2.2.2.2.2.2.2.2]; exact hk
  have e1 : EqO w (al w 20 0 0) 0 (s - 1) := EqO.al (by omega)
  have e2 : EqO (al w 20 0 0) (sv (al w 20 0 0) s 0 (s + 1)) 0 (s - 1) := EqO.sv (by omega)
  refine ⟨sv (al w 20 0 0) s 0 (s + 1), xX4_init (Rn.ret ?_), ka, by rw [a.1]; omega, a.2.1, a.2.2.1, e1.trans e2⟩
  rw [eX4_init_0, if_pos hk, if_pos (by decide), wl_eq, show (0 : Int).toNat = 0 from rfl, if_pos ka, hn, wl_eq]


def fF (i : Int) : Int := if i = 1 then 1 else if i ≤ 11 then i + 12 else if i = 12 then 27 else if i = 13 then 30 else if i = 14 then 31 else 34
def fK (i : Int) : Int := if i = 8 then 22 else if i = 9 then 22 else if i = 10 then 22 else if i = 11 then 23 else 20
def fL (i : Int) : Int := if i = 1 then 940 else if i = 2 then 6062 else if i = 3 then 2607 else if i = 4 then 12124 else if i = 5 then 25704 else if i = 6 then 3213 else if i = 7 then 3213 else if i = 8 then 4 else if i = 9 then 4 else if i = 10 then 8 else if i = 11 then 2 else if i = 12 then 600 else if i = 13 then 160 else if i = 14 then 4 else 240
theorem fF_lt {i k : Int} (h1 : 1 ≤ i) (h2 : i < k) (h3 : k ≤ 15) : fF i < fF k := by
  unfold fF
  by_cases a : i = 1
  · rw [if_pos a, if_neg (by omega)]
    by_cases b : k ≤ 11
    · rw [if_pos b]; omega
    · rw [if_neg b]
      split
      · omega
      · split
        · omega
        · split <;> omega
  · rw [if_neg a, if_neg (show ¬ k = 1 by omega)]
    by_cases b : k ≤ 11
    · rw [if_pos b, if_pos (by omega)]; omega
    · rw [if_neg b]
      by_cases c : i ≤ 11
      · rw [if_pos c]
        split
        · omega
        · split
          · omega
          · split <;> omega
      · rw [if_neg c]
        by_cases d : i = 12
        · rw [if_pos d, if_neg (by omega)]
          split
          · omega
          · split <;> omega
        · rw [if_neg d, if_neg (show ¬ k = 12 by omega)]
          by_cases e : i = 13
          · rw [if_pos e, if_neg (by omega)]
            split <;> omega
          · rw [if_neg e, if_neg (show ¬ k = 13 by omega), if_pos (show i = 14 by omega), if_neg (by omega)]
            omega
/-- an array of the reference's made -/
def ar (m f kind len : Int) (w : sW) (k : sW → Option sO) : Option sO := if 0 ≤ len ∧ len ≤ 100000 then wl (al w kind len (Int.toNat len)) (fun w1 => if kd w1 m = 10 then wl (sv w1 m f (nx w)) k else none) else none
/-- k arrays made -/
def Mk (w0 w : sW) (m k : Int) (x : Nat) : Prop := nx w = m + 1 + k ∧ kd w m = 10 ∧ EqO w0 w 0 (m - 1) ∧ (∀ i, 1 ≤ i → i ≤ k → gv w m (fF i) = m + i ∧ kd w (m + i) = fK i ∧ ln w (m + i) = fL i ∧ ∀ j, gv w (m + i) j = 0) ∧ (∀ j, (∀ i, 1 ≤ i → i ≤ k → j ≠ fF i) → gv w m j = 0) ∧ (uc w : Int) = uc w0 + k ∧ us w = us w0 + x
theorem Mk.step {w0 w : sW} {m k f kind len : Int} {x : Nat} (h : Mk w0 w m k x) (hm : 32 ≤ m) (hk : 0 ≤ k ∧ k < 15) (e1 : f = fF (k + 1)) (e2 : kind = fK (k + 1)) (e3 : len = fL (k + 1)) (hl : 0 ≤ len ∧ len ≤ 100000) : ∃ w', Mk w0 w' m (k + 1) (x + len.toNat) ∧ ∀ c, ar m f kind len w c = c w' := by
  obtain ⟨h1, h2, h3, h4, h5, h6, h7⟩ := h
  obtain ⟨a1, a2, a3, a4, a5, a6, a7, a8, a9⟩ := sg_arr (w := w) (o := m) (f := f) (kind := kind) (len := len) (r := m + 1 + k) (n := len.toNat) h1 (by omega)
  refine ⟨sv (al w kind len len.toNat) m f (m + 1 + k), ⟨by rw [a1]; omega, by rw [a4.kdE (by omega) (by omega)]; exact h2, h3.trans (a4.eqO (by omega) (by omega) (fun r j r0 r1 => by omega)), fun i i0 i1 => ?_, fun j hj => ?_, by rw [a2]; omega, by rw [a3, h7]; omega⟩, fun c => ?_⟩
  · by_cases z : i = k + 1
    · rw [z, ← e1, ← e2, ← e3, show m + (k + 1) = m + 1 + k by omega]
      exact ⟨a5, a6, a7, a8⟩
    · have lt := fF_lt i0 (show i < k + 1 by omega) (by omega)
      have g := h4 i i0 (by omega)
      exact ⟨by rw [a4.gvE (by omega) (by omega) (by omega)]; exact g.1, by rw [a4.kdE (by omega) (by omega)]; exact g.2.1, by rw [a4.lnE (by omega) (by omega)]; exact g.2.2.1, fun j => by rw [a4.gvE (by omega) (by omega) (by omega)]; exact g.2.2.2 j⟩
  · have hf := hj (k + 1) (by omega) (by omega)
    rw [a4.gvE (by omega) (by omega) (by omega)]
    exact h5 j (fun i i0 i1 => hj i i0 (by omega))
  · unfold ar
    rw [if_pos hl, wl_eq, if_pos (by rw [a9]; exact h2), h1, wl_eq]

theorem m_init {m : Int} (hm : 32 ≤ m) (hk : kd w m = 10) (hn : nx w = m + 1) (h0 : ∀ j, gv w m j = 0) : ∃ w' x, Ex pro (d + 1) 169 w [rV m] = some (none, sv w' (m + 2) 1 8) ∧ Mk w w' m 15 x ∧ x ≤ 60000 := by
  have s0 : Mk w w m 0 0 := ⟨by omega, hk, EqO.refl _ _ _, fun i i0 i1 => by omega, fun j _ => h0 j, by omega, by omega⟩
  obtain ⟨w1, s1, r1⟩ := Mk.step (f := 1) (kind := 20) (len := 940) s0 hm (by omega) rfl rfl rfl (by omega)
  obtain ⟨w2, s2, r2⟩ := Mk.step (f := 14) (kind := 20) (len := 6062) s1 hm (by omega) rfl rfl rfl (by omega)
  obtain ⟨w3, s3, r3⟩ := Mk.step (f := 15) (kind := 20) (len := 2607) s2 hm (by omega) rfl rfl rfl (by omega)
  obtain ⟨w4, s4, r4⟩ := Mk.step (f := 16) (kind := 20) (len := 12124) s3 hm (by omega) rfl rfl rfl (by omega)
  obtain ⟨w5, s5, r5⟩ := Mk.step (f := 17) (kind := 20) (len := 25704) s4 hm (by omega) rfl rfl rfl (by omega)
  obtain ⟨w6, s6, r6⟩ := Mk.step (f := 18) (kind := 20) (len := 3213) s5 hm (by omega) rfl rfl rfl (by omega)
  obtain ⟨w7, s7, r7⟩ := Mk.step (f := 19) (kind := 20) (len := 3213) s6 hm (by omega) rfl rfl rfl (by omega)
  obtain ⟨w8, s8, r8⟩ := Mk.step (f := 20) (kind := 22) (len := 4) s7 hm (by omega) rfl rfl rfl (by omega)
  obtain ⟨w9, s9, r9⟩ := Mk.step (f := 21) (kind := 22) (len := 4) s8 hm (by omega) rfl rfl rfl (by omega)
  obtain ⟨w10, s10, r10⟩ := Mk.step (f := 22) (kind := 22) (len := 8) s9 hm (by omega) rfl rfl rfl (by omega)
  obtain ⟨w11, s11, r11⟩ := Mk.step (f := 23) (kind := 23) (len := 2) s10 hm (by omega) rfl rfl rfl (by omega)
  obtain ⟨w12, s12, r12⟩ := Mk.step (f := 27) (kind := 20) (len := 600) s11 hm (by omega) rfl rfl rfl (by omega)
  obtain ⟨w13, s13, r13⟩ := Mk.step (f := 30) (kind := 20) (len := 160) s12 hm (by omega) rfl rfl rfl (by omega)
  obtain ⟨w14, s14, r14⟩ := Mk.step (f := 31) (kind := 20) (len := 4) s13 hm (by omega) rfl rfl rfl (by omega)
  obtain ⟨w15, s15, r15⟩ := Mk.step (f := 34) (kind := 20) (len := 240) s14 hm (by omega) rfl rfl rfl (by omega)
  have q := s15.2.2.2.1 2 (by omega) (by omega)
  have p14 : gv w15 m 14 = m + 2 := q.1
  have q2 : kd w15 (m + 2) = 20 := q.2.1
  have q2l : ln w15 (m + 2) = 6062 := q.2.2.1
  refine ⟨w15, _, xX12_init (Rn.ret ?_), s15, by omega⟩
  rw [eX12_init_0, if_pos hk]
  have run : ar m 1 20 940 w (fun v => ar m 14 20 6062 v (fun v => ar m 15 20 2607 v (fun v => ar m 16 20 12124 v (fun v => ar m 17 20 25704 v (fun v => ar m 18 20 3213 v (fun v => ar m 19 20 3213 v (fun v => ar m 20 22 4 v (fun v => ar m 21 22 4 v (fun v => ar m 22 22 8 v (fun v => ar m 23 23 2 v (fun v => ar m 27 20 600 v (fun v => ar m 30 20 160 v (fun v => ar m 31 20 4 v (fun v => ar m 34 20 240 v (fun w30 => if kd w30 m = 10 then (if (kd w30 (gv w30 m 14) = 20 ∧ 32 ≤ (gv w30 m 14)) ∧ 0 ≤ (1 : Int) ∧ (1 : Int) < ln w30 (gv w30 m 14) then wl (sv w30 (gv w30 m 14) 1 8) (fun w31 => some (.inr (none, w31))) else none) else none))))))))))))))) = some (.inr (none, sv w15 (m + 2) 1 8)) := by
    rw [r1, r2, r3, r4, r5, r6, r7, r8, r9, r10, r11, r12, r13, r14, r15]
    rw [if_pos s15.2.1, p14, if_pos ⟨⟨q2, by omega⟩, by omega, by omega⟩, wl_eq]
  exact run
theorem b_init (hk : kd w 32 = 9) (hn : nx w = 33) (h0 : ∀ j, gv w 32 j = 0) : ∃ w', Ex pro (d + 3) 95 w [rV 32] = some (none, w') ∧ (kd w' 32 = 9 ∧ gv w' 32 0 = 33 ∧ gv w' 32 1 = 0 ∧ gv w' 32 2 = 34 ∧ gv w' 32 3 = 36 ∧ gv w' 32 4 = 53 ∧ gv w' 32 5 = 70 ∧ gv w' 32 6 = 75 ∧ gv w' 32 7 = 80 ∧ gv w' 32 8 = 85 ∧ gv w' 32 9 = 87 ∧ gv w' 32 10 = 88 ∧ gv w' 32 11 = 89 ∧ gv w' 32 12 = 0 ∧ gv w' 32 13 = 0 ∧ gv w' 32 14 = 90) ∧ (kd w' 33 = 20 ∧ ln w' 33 = 940 ∧ ∀ j, gv w' 33 j = 0) ∧ kd w' 34 = 4 ∧ StI w' 36 A0 ∧ StI w' 53 A0 ∧ (SeSh w' 70 ∧ gv w' 70 4 = 0 ∧ gv w' 70 5 = 0) ∧ SeSh w' 75 ∧ BoI w' 0 bL0 ∧ ((kd w' 85 = 3 ∧ gv w' 85 0 = 86 ∧ kd w' 86 = 25 ∧ ln w' 86 = 8) ∧ (gv w' 85 1 = 0 ∧ gv w' 85 2 = 0) ∧ ∀ j, gv w' 86 j = 0) ∧ (kd w' 87 = 25 ∧ ln w' 87 = 2 ∧ ∀ j, gv w' 87 j = 0) ∧ (kd w' 88 = 26 ∧ ln w' 88 = 2 ∧ ∀ j, gv w' 88 j = 0) ∧ (kd w' 89 = 20 ∧ ln w' 89 = 600) ∧ (kd w' 90 = 20 ∧ ln w' 90 = 4 ∧ ∀ j, 0 ≤ j → j < 4 → gv w' 90 j = -1) ∧ nx w' = 91 ∧ uc w' = uc w + 58 ∧ us w' ≤ us w + 30000 ∧ EqO w w' 0 31 := by
  obtain ⟨n1', u1, v1, g1, f1, d1, l1, z1, c1⟩ := sg_arr (w := w) (o := 32) (f := 0) (kind := 20) (len := 940) (r := 33) (n := Int.toNat 940) hn (by omega)
  rw [hk] at c1
  have n1 : nx (sv (al w 20 940 (Int.toNat 940)) 32 0 33) = 34 := by rw [n1']; omega
  have k1 : kd (sv (al w 20 940 (Int.toNat 940)) 32 0 33) 32 = 9 := c1
  generalize e1 : sv (al w 20 940 (Int.toNat 940)) 32 0 33 = w1 at n1 u1 v1 g1 f1 d1 l1 z1 k1
  clear n1'
  obtain ⟨b2, t2, q2, x2, uu2, vv2, ee2⟩ := rd_init (d := d + 1) (w := (al w1 4 0 12)) (s := 34) (by omega) (by rw [kdL, if_pos n1.symm]) (by rw [nxL, n1])
  have x2' : nx b2 = 36 := by rw [x2]; omega
  obtain ⟨n2, ua2, va2, g2, f2, c2, h2⟩ := sg_obj (w := w1) (w' := b2) (o := 32) (f := 2) n1 ee2 x2' (by omega) (by omega)
  rw [k1] at c2
  have u2 : uc (sv b2 32 2 34) = uc w1 + 2 := by rw [ua2, uu2, ucL]
  have v2 : us (sv b2 32 2 34) ≤ us w1 + 3300 := by rw [va2, vv2, usL]; omega
  have k2 : kd (sv b2 32 2 34) 32 = 9 := c2
  generalize e2 : sv b2 32 2 34 = w2 at n2 u2 v2 g2 f2 h2 k2
  clear ua2 va2
  obtain ⟨b3, t3, q3, x3, uu3, vv3, ee3⟩ := st_init (d := d) (w := (al w2 8 0 6)) (s := 36) (by omega) (by rw [kdL, if_pos n2.symm]) (by rw [nxL, n2]) (by rw [gvL, if_pos n2.symm])
  have x3' : nx b3 = 53 := by rw [x3]; omega
  obtain ⟨n3, ua3, va3, g3, f3, c3, h3⟩ := sg_obj (w := w2) (w' := b3) (o := 32) (f := 3) n2 ee3 x3' (by omega) (by omega)
  rw [k2] at c3
  have u3 : uc (sv b3 32 3 36) = uc w2 + 17 := by rw [ua3, uu3, ucL]
  have v3 : us (sv b3 32 3 36) ≤ us w2 + 3300 := by rw [va3, vv3, usL]; omega
  have k3 : kd (sv b3 32 3 36) 32 = 9 := c3
  generalize e3 : sv b3 32 3 36 = w3 at n3 u3 v3 g3 f3 h3 k3
  clear ua3 va3
  obtain ⟨b4, t4, q4, x4, uu4, vv4, ee4⟩ := st_init (d := d) (w := (al w3 8 0 6)) (s := 53) (by omega) (by rw [kdL, if_pos n3.symm]) (by rw [nxL, n3]) (by rw [gvL, if_pos n3.symm])
  have x4' : nx b4 = 70 := by rw [x4]; omega
  obtain ⟨n4, ua4, va4, g4, f4, c4, h4⟩ := sg_obj (w := w3) (w' := b4) (o := 32) (f := 4) n3 ee4 x4' (by omega) (by omega)
  rw [k3] at c4
  have u4 : uc (sv b4 32 4 53) = uc w3 + 17 := by rw [ua4, uu4, ucL]
  have v4 : us (sv b4 32 4 53) ≤ us w3 + 3300 := by rw [va4, vv4, usL]; omega
  have k4 : kd (sv b4 32 4 53) 32 = 9 := c4
  generalize e4 : sv b4 32 4 53 = w4 at n4 u4 v4 g4 f4 h4 k4
  clear ua4 va4
  obtain ⟨b5, t5, q5, qa5, qb5, x5, uu5, vv5, ee5⟩ := se_init (d := d + 1) (w := (al w4 7 0 6)) (s := 70) (by omega) (by rw [kdL, if_pos n4.symm]) (by rw [nxL, n4]) (by rw [gvL, if_pos n4.symm]) (by rw [gvL, if_pos n4.symm])
  have x5' : nx b5 = 75 := by rw [x5]; omega
  obtain ⟨n5, ua5, va5, g5, f5, c5, h5⟩ := sg_obj (w := w4) (w' := b5) (o := 32) (f := 5) n4 ee5 x5' (by omega) (by omega)
  rw [k4] at c5
  have u5 : uc (sv b5 32 5 70) = uc w4 + 5 := by rw [ua5, uu5, ucL]
  have v5 : us (sv b5 32 5 70) ≤ us w4 + 3300 := by rw [va5, vv5, usL]; omega
  have k5 : kd (sv b5 32 5 70) 32 = 9 := c5
  generalize e5 : sv b5 32 5 70 = w5 at n5 u5 v5 g5 f5 h5 k5
  clear ua5 va5
  obtain ⟨b6, t6, q6, qa6, qb6, x6, uu6, vv6, ee6⟩ := se_init (d := d + 1) (w := (al w5 7 0 6)) (s := 75) (by omega) (by rw [kdL, if_pos n5.symm]) (by rw [nxL, n5]) (by rw [gvL, if_pos n5.symm]) (by rw [gvL, if_pos n5.symm])
  have x6' : nx b6 = 80 := by rw [x6]; omega
  obtain ⟨n6, ua6, va6, g6, f6, c6, h6⟩ := sg_obj (w := w5) (w' := b6) (o := 32) (f := 6) n5 ee6 x6' (by omega) (by omega)
  rw [k5] at c6
  have u6 : uc (sv b6 32 6 75) = uc w5 + 5 := by rw [ua6, uu6, ucL]
  have v6 : us (sv b6 32 6 75) ≤ us w5 + 3300 := by rw [va6, vv6, usL]; omega
  have k6 : kd (sv b6 32 6 75) 32 = 9 := c6
  generalize e6 : sv b6 32 6 75 = w6 at n6 u6 v6 g6 f6 h6 k6
  clear ua6 va6
  obtain ⟨b7, t7, ⟨qa7, qb7, qc7, qd7, qe7⟩, qf7, qg7, qh7, qi7, qj7, x7, uu7, vv7, ee7⟩ := bk_init (d := d + 1) (w := (al w6 1 0 6)) (s := 80) (by omega) (by rw [kdL, if_pos n6.symm]) (by rw [nxL, n6]) (by rw [gvL, if_pos n6.symm]) (by rw [gvL, if_pos n6.symm])
  have x7' : nx b7 = 85 := by rw [x7]; omega
  obtain ⟨n7, ua7, va7, g7, f7, c7, h7⟩ := sg_obj (w := w6) (w' := b7) (o := 32) (f := 7) n6 ee7 x7' (by omega) (by omega)
  rw [k6] at c7
  have u7 : uc (sv b7 32 7 80) = uc w6 + 5 := by rw [ua7, uu7, ucL]
  have v7 : us (sv b7 32 7 80) ≤ us w6 + 3300 := by rw [va7, vv7, usL]; omega
  have k7 : kd (sv b7 32 7 80) 32 = 9 := c7
  generalize e7 : sv b7 32 7 80 = w7 at n7 u7 v7 g7 f7 h7 k7
  clear ua7 va7
  obtain ⟨b8, t8, ⟨qa8, qb8, qc8, qd8⟩, qe8, qf8, x8, uu8, vv8, ee8⟩ := hi_init (d := d + 1) (w := (al w7 3 0 3)) (s := 85) (by omega) (by rw [kdL, if_pos n7.symm]) (by rw [nxL, n7]) (by rw [gvL, if_pos n7.symm]) (by rw [gvL, if_pos n7.symm])
  have x8' : nx b8 = 87 := by rw [x8]; omega
  obtain ⟨n8, ua8, va8, g8, f8, c8, h8⟩ := sg_obj (w := w7) (w' := b8) (o := 32) (f := 8) n7 ee8 x8' (by omega) (by omega)
  rw [k7] at c8
  have u8 : uc (sv b8 32 8 85) = uc w7 + 2 := by rw [ua8, uu8, ucL]
  have v8 : us (sv b8 32 8 85) ≤ us w7 + 3300 := by rw [va8, vv8, usL]; omega
  have k8 : kd (sv b8 32 8 85) 32 = 9 := c8
  generalize e8 : sv b8 32 8 85 = w8 at n8 u8 v8 g8 f8 h8 k8
  clear ua8 va8
  obtain ⟨n9', u9, v9, g9, f9, d9, l9, z9, c9⟩ := sg_arr (w := w8) (o := 32) (f := 9) (kind := 25) (len := 2) (r := 87) (n := Int.toNat 2) n8 (by omega)
  rw [k8] at c9
  have n9 : nx (sv (al w8 25 2 (Int.toNat 2)) 32 9 87) = 88 := by rw [n9']; omega
  have k9 : kd (sv (al w8 25 2 (Int.toNat 2)) 32 9 87) 32 = 9 := c9
  generalize e9 : sv (al w8 25 2 (Int.toNat 2)) 32 9 87 = w9 at n9 u9 v9 g9 f9 d9 l9 z9 k9
  clear n9'
  obtain ⟨n10', u10, v10, g10, f10, d10, l10, z10, c10⟩ := sg_arr (w := w9) (o := 32) (f := 10) (kind := 26) (len := 2) (r := 88) (n := Int.toNat 2) n9 (by omega)
  rw [k9] at c10
  have n10 : nx (sv (al w9 26 2 (Int.toNat 2)) 32 10 88) = 89 := by rw [n10']; omega
  have k10 : kd (sv (al w9 26 2 (Int.toNat 2)) 32 10 88) 32 = 9 := c10
  generalize e10 : sv (al w9 26 2 (Int.toNat 2)) 32 10 88 = w10 at n10 u10 v10 g10 f10 d10 l10 z10 k10
  clear n10'
  obtain ⟨n11', u11, v11, g11, f11, d11, l11, z11, c11⟩ := sg_arr (w := w10) (o := 32) (f := 11) (kind := 20) (len := 600) (r := 89) (n := Int.toNat 600) n10 (by omega)
  rw [k10] at c11
  have n11 : nx (sv (al w10 20 600 (Int.toNat 600)) 32 11 89) = 90 := by rw [n11']; omega
  have k11 : kd (sv (al w10 20 600 (Int.toNat 600)) 32 11 89) 32 = 9 := c11
  generalize e11 : sv (al w10 20 600 (Int.toNat 600)) 32 11 89 = w11 at n11 u11 v11 g11 f11 d11 l11 z11 k11
  clear n11'
  have m1 : ∀ r, kd (al w11 20 4 (Int.toNat 4)) r = if r = 90 then 20 else kd w11 r := fun r => by rw [kdL, n11]
  have m2 : ∀ r, ln (al w11 20 4 (Int.toNat 4)) r = if r = 90 then 4 else ln w11 r := fun r => by rw [lnL, n11]
  have m3 := Ag.al w11 20 4 (Int.toNat 4)
  have m4 : nx (al w11 20 4 (Int.toNat 4)) = 91 := by rw [nxL, n11]; omega
  have m5 : uc (al w11 20 4 (Int.toNat 4)) = uc w11 + 1 := ucL _ _ _ _
  have m6 : us (al w11 20 4 (Int.toNat 4)) = us w11 + Int.toNat 4 := usL _ _ _ _
  generalize em : al w11 20 4 (Int.toNat 4) = y0 at m1 m2 m3 m4 m5 m6
  have i90 : ∀ x, 0 ≤ x ∧ x < 4 → (kd y0 90 = 20 ∧ 32 ≤ (90 : Int)) ∧ 0 ≤ x ∧ x < ln y0 90 := fun x hx => ⟨⟨by rw [m1, if_pos rfl], by omega⟩, hx.1, by rw [m2, if_pos rfl]; exact hx.2⟩
  have s1 := Mf.svI y0 90 0 (-1)
  have s2 := Mf.svI (sv y0 90 0 (-1)) 90 1 (-1)
  have s3 := Mf.svI (sv (sv y0 90 0 (-1)) 90 1 (-1)) 90 2 (-1)
  have s4 := Mf.svI (sv (sv (sv y0 90 0 (-1)) 90 1 (-1)) 90 2 (-1)) 90 3 (-1)
  have s5 := Mf.svI (sv (sv (sv (sv y0 90 0 (-1)) 90 1 (-1)) 90 2 (-1)) 90 3 (-1)) 32 14 90
  have s15 : Mf y0 (sv (sv (sv (sv (sv y0 90 0 (-1)) 90 1 (-1)) 90 2 (-1)) 90 3 (-1)) 32 14 90) (fun r j => r = 90 ∨ (r = 32 ∧ j = 14)) := (s1.trans (s2.trans (s3.trans (s4.trans s5)))).mono (fun r j z => by omega)
  have v90 : ∀ j, 0 ≤ j → j < 4 → gv (sv (sv (sv (sv (sv y0 90 0 (-1)) 90 1 (-1)) 90 2 (-1)) 90 3 (-1)) 32 14 90) 90 j = -1 := fun j j0 j1 => by
    rw [s5.gvE (by omega)]
    simp only [gvS]
    have hj : j = 0 ∨ j = 1 ∨ j = 2 ∨ j = 3 := by omega
    rcases hj with z | z | z | z <;> subst z <;> simp
  have v14 : gv (sv (sv (sv (sv (sv y0 90 0 (-1)) 90 1 (-1)) 90 2 (-1)) 90 3 (-1)) 32 14 90) 32 14 = 90 := gvSS _ _ _ _
  have y32 : kd y0 32 = 9 := by rw [m1, if_neg (by omega)]; exact k11
  generalize ef : sv (sv (sv (sv (sv y0 90 0 (-1)) 90 1 (-1)) 90 2 (-1)) 90 3 (-1)) 32 14 90 = wF at s15 v90 v14
  clear s1 s2 s3 s4 s5
  have g12 : Ag w11 wF (fun r j => r = 32 ∧ j = 14) := (m3.trans s15.ag).mono (fun r j r0 r1 z => by
    rcases z with z | z
    · exact z.elim
    · rcases z with z | z
      · omega
      · exact z)
  have y11 : Ag w11 wF (fun r j => r = 32 ∧ 11 < j) := g12.mono (fun r j _ _ z => by omega)
  have y10 : Ag w10 wF (fun r j => r = 32 ∧ 10 < j) := (g11.trans y11).mono (fun r j _ _ z => by omega)
  have y9 : Ag w9 wF (fun r j => r = 32 ∧ 9 < j) := (g10.trans y10).mono (fun r j _ _ z => by omega)
  have y8 : Ag w8 wF (fun r j => r = 32 ∧ 8 < j) := (g9.trans y9).mono (fun r j _ _ z => by omega)
  have y7 : Ag w7 wF (fun r j => r = 32 ∧ 7 < j) := (g8.trans y8).mono (fun r j _ _ z => by omega)
  have y6 : Ag w6 wF (fun r j => r = 32 ∧ 6 < j) := (g7.trans y7).mono (fun r j _ _ z => by omega)
  have y5 : Ag w5 wF (fun r j => r = 32 ∧ 5 < j) := (g6.trans y6).mono (fun r j _ _ z => by omega)
  have y4 : Ag w4 wF (fun r j => r = 32 ∧ 4 < j) := (g5.trans y5).mono (fun r j _ _ z => by omega)
  have y3 : Ag w3 wF (fun r j => r = 32 ∧ 3 < j) := (g4.trans y4).mono (fun r j _ _ z => by omega)
  have y2 : Ag w2 wF (fun r j => r = 32 ∧ 2 < j) := (g3.trans y3).mono (fun r j _ _ z => by omega)
  have y1 : Ag w1 wF (fun r j => r = 32 ∧ 0 < j) := (g2.trans y2).mono (fun r j _ _ z => by omega)
  have yy : Ag w wF (fun r j => r = 32 ∧ j ≠ 1 ∧ j ≠ 12 ∧ j ≠ 13) := by
    refine ((((((((((((g1).trans g2).trans g3).trans g4).trans g5).trans g6).trans g7).trans g8).trans g9).trans g10).trans g11).trans g12).mono (fun r j _ _ z => ?_)
    rcases z with ((((((((((z | z) | z) | z) | z) | z) | z) | z) | z) | z) | z) | z <;> omega
  have o2 : Ag b2 wF (fun r j => r = 32) := (h2.trans y2).mono (fun r j _ _ z => by omega)
  have o3 : Ag b3 wF (fun r j => r = 32) := (h3.trans y3).mono (fun r j _ _ z => by omega)
  have o4 : Ag b4 wF (fun r j => r = 32) := (h4.trans y4).mono (fun r j _ _ z => by omega)
  have o5 : Ag b5 wF (fun r j => r = 32) := (h5.trans y5).mono (fun r j _ _ z => by omega)
  have o6 : Ag b6 wF (fun r j => r = 32) := (h6.trans y6).mono (fun r j _ _ z => by omega)
  have o7 : Ag b7 wF (fun r j => r = 32) := (h7.trans y7).mono (fun r j _ _ z => by omega)
  have o8 : Ag b8 wF (fun r j => r = 32) := (h8.trans y8).mono (fun r j _ _ z => by omega)
  refine ⟨wF, xX11_init (Rn.ret ?_), ⟨by rw [yy.kdE (by omega) (by omega)]; exact hk, by rw [y1.gvE (by omega) (by omega) (by omega)]; exact f1, by rw [yy.gvE (by omega) (by omega) (by omega)]; exact h0 1, by rw [y2.gvE (by omega) (by omega) (by omega)]; exact f2, by rw [y3.gvE (by omega) (by omega) (by omega)]; exact f3, by rw [y4.gvE (by omega) (by omega) (by omega)]; exact f4, by rw [y5.gvE (by omega) (by omega) (by omega)]; exact f5, by rw [y6.gvE (by omega) (by omega) (by omega)]; exact f6, by rw [y7.gvE (by omega) (by omega) (by omega)]; exact f7, by rw [y8.gvE (by omega) (by omega) (by omega)]; exact f8, by rw [y9.gvE (by omega) (by omega) (by omega)]; exact f9, by rw [y10.gvE (by omega) (by omega) (by omega)]; exact f10, by rw [y11.gvE (by omega) (by omega) (by omega)]; exact f11, by rw [yy.gvE (by omega) (by omega) (by omega)]; exact h0 12, by rw [yy.gvE (by omega) (by omega) (by omega)]; exact h0 13, v14⟩, ⟨by rw [y1.kdE (by omega) (by omega)]; exact d1, by rw [y1.lnE (by omega) (by omega)]; exact l1, fun j => by rw [y1.gvE (by omega) (by omega) (by omega)]; exact z1 j⟩, by rw [o2.kdE (by omega) (by omega)]; exact q2, q3.eq (o3.eqO (by omega) (by omega) (fun r j r0 r1 => by omega)), q4.eq (o4.eqO (by omega) (by omega) (fun r j r0 r1 => by omega)), ⟨q5.eq (o5.eqO (by omega) (by omega) (fun r j r0 r1 => by omega)), by rw [o5.gvE (by omega) (by omega) (by omega)]; exact qa5, by rw [o5.gvE (by omega) (by omega) (by omega)]; exact qb5⟩, q6.eq (o6.eqO (by omega) (by omega) (fun r j r0 r1 => by omega)), ⟨⟨by rw [o7.kdE (by omega) (by omega)]; exact qa7, by rw [o7.gvE (by omega) (by omega) (by omega)]; exact qb7, by rw [o7.gvE (by omega) (by omega) (by omega)]; exact qc7, by rw [o7.gvE (by omega) (by omega) (by omega)]; exact qd7, by rw [o7.gvE (by omega) (by omega) (by omega)]; exact qe7⟩, ⟨by rw [o7.kdE (by omega) (by omega)]; exact qf7.1, by rw [o7.lnE (by omega) (by omega)]; exact qf7.2⟩, ⟨by rw [o7.kdE (by omega) (by omega)]; exact qg7.1, by rw [o7.lnE (by omega) (by omega)]; exact qg7.2⟩, ⟨by rw [o7.kdE (by omega) (by omega)]; exact qh7.1, by rw [o7.lnE (by omega) (by omega)]; exact qh7.2⟩, ⟨by rw [o7.kdE (by omega) (by omega)]; exact qi7.1, by rw [o7.lnE (by omega) (by omega)]; exact qi7.2⟩, by rw [o7.gvE (by omega) (by omega) (by omega)]; exact qj7, by omega, fun i i0 i1 => by omega⟩, ⟨⟨by rw [o8.kdE (by omega) (by omega)]; exact qa8, by rw [o8.gvE (by omega) (by omega) (by omega)]; exact qb8, by rw [o8.kdE (by omega) (by omega)]; exact qc8, by rw [o8.lnE (by omega) (by omega)]; exact qd8⟩, ⟨by rw [o8.gvE (by omega) (by omega) (by omega)]; exact qe8.1, by rw [o8.gvE (by omega) (by omega) (by omega)]; exact qe8.2⟩, fun j => by rw [o8.gvE (by omega) (by omega) (by omega)]; exact qf8 j⟩, ⟨by rw [y9.kdE (by omega) (by omega)]; exact d9, by rw [y9.lnE (by omega) (by omega)]; exact l9, fun j => by rw [y9.gvE (by omega) (by omega) (by omega)]; exact z9 j⟩, ⟨by rw [y10.kdE (by omega) (by omega)]; exact d10, by rw [y10.lnE (by omega) (by omega)]; exact l10, fun j => by rw [y10.gvE (by omega) (by omega) (by omega)]; exact z10 j⟩, ⟨by rw [y11.kdE (by omega) (by omega)]; exact d11, by rw [y11.lnE (by omega) (by omega)]; exact l11⟩, ⟨by rw [s15.kdE, m1, if_pos rfl], by rw [s15.lnE, m2, if_pos rfl], v90⟩, by rw [s15.nxE]; exact m4, by rw [s15.ucE, m5, u11, u10, u9, u8, u7, u6, u5, u4, u3, u2, u1], by rw [s15.usE, m6]; omega, yy.eqO (by omega) (by omega) (fun r j r0 r1 => by omega)⟩
  · rw [eX11_init_0]
    rw [if_pos hk, if_pos (by decide), wl_eq, if_pos c1, hn, wl_eq, e1]
    rw [wl_eq, n1, if_pos (by rw [kdL, if_pos n1.symm]), t2]
    simp only [bN]
    rw [if_pos c2, wl_eq, e2]
    rw [wl_eq, n2, if_pos (by rw [kdL, if_pos n2.symm]), t3]
    simp only []
    rw [if_pos c3, wl_eq, e3]
    rw [wl_eq, n3, if_pos (by rw [kdL, if_pos n3.symm]), t4]
    simp only []
    rw [if_pos c4, wl_eq, e4]
    rw [wl_eq, n4, if_pos (by rw [kdL, if_pos n4.symm]), t5]
    simp only []
    rw [if_pos c5, wl_eq, e5]
    rw [wl_eq, n5, if_pos (by rw [kdL, if_pos n5.symm]), t6]
    simp only []
    rw [if_pos c6, wl_eq, e6]
    rw [wl_eq, n6, if_pos (by rw [kdL, if_pos n6.symm]), t7]
    simp only []
    rw [if_pos c7, wl_eq, e7]
    rw [wl_eq, n7, if_pos (by rw [kdL, if_pos n7.symm]), t8]
    simp only []
    rw [if_pos c8, wl_eq, e8]
    rw [if_pos (by decide), wl_eq, if_pos c9, n8, wl_eq, e9]
    rw [if_pos (by decide), wl_eq, if_pos c10, n9, wl_eq, e10]
    rw [if_pos (by decide), wl_eq, if_pos c11, n10, wl_eq, e11]
    rw [if_pos (by decide), n11, wl_eq, em, if_pos (i90 0 (by omega)), wl_eq, if_pos (show (kd (sv y0 90 0 (-1)) 90 = 20 ∧ 32 ≤ (90 : Int)) ∧ 0 ≤ (1 : Int) ∧ (1 : Int) < ln (sv y0 90 0 (-1)) 90 from i90 1 (by omega)), wl_eq, if_pos (show (kd (sv (sv y0 90 0 (-1)) 90 1 (-1)) 90 = 20 ∧ 32 ≤ (90 : Int)) ∧ 0 ≤ (2 : Int) ∧ (2 : Int) < ln (sv (sv y0 90 0 (-1)) 90 1 (-1)) 90 from i90 2 (by omega)), wl_eq, if_pos (show (kd (sv (sv (sv y0 90 0 (-1)) 90 1 (-1)) 90 2 (-1)) 90 = 20 ∧ 32 ≤ (90 : Int)) ∧ 0 ≤ (3 : Int) ∧ (3 : Int) < ln (sv (sv (sv y0 90 0 (-1)) 90 1 (-1)) 90 2 (-1)) 90 from i90 3 (by omega)), wl_eq, if_pos (show kd (sv (sv (sv (sv y0 90 0 (-1)) 90 1 (-1)) 90 2 (-1)) 90 3 (-1)) 32 = 9 from y32), wl_eq]
    rw [ef]
end CT
