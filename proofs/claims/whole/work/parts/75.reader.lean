/-! ===== the class's reader goes on ===== -/
section RE
variable {d : Nat} {w : sW} {C : sC} {t : Int → Int} {n most p : Int}
theorem t_letters {a : Int} (h0 : 0 ≤ a) (ha : a ≤ n) (hT : TxI w t n most) (h3 : gv w 34 3 = a) : ∃ w', Ex pro (d + 1) 17 w [rV 34] = some (none, w') ∧ TxI w' t n most ∧ gv w' 34 3 = enF t n (n - a).toNat a ∧ gv w' 34 4 = (if enF t n (n - a).toNat a = a then 1 else knd t a (enF t n (n - a).toNat a - a).toNat) ∧ (gv w' 34 4 = 2 → gv w' 34 8 = cod 32 t a (enF t n (n - a).toNat a - a).toNat) ∧ (gv w' 34 4 = 3 → gv w' 34 6 = nm10 t a (enF t n (n - a).toNat a - a).toNat) ∧ Mf w w' (fun r j => r = 34 ∧ (j = 3 ∨ j = 4 ∨ j = 6 ∨ j = 8)) := by
  have k := hT.1.1
  have mf0 : Mf w (sv (sv w 34 8 0) 34 6 0) (fun r j => r = 34 ∧ (j = 3 ∨ j = 4 ∨ j = 6 ∨ j = 8)) := ((Mf.svI w 34 8 0).trans (Mf.svI _ 34 6 0)).mono (fun r j z => by omega)
  have S0 : ScnI (sv (sv w 34 8 0) 34 6 0) t a a := ⟨by rw [gvS, if_neg (by omega), gvS, if_neg (by omega)]; exact h3, fun _ => by rw [gvS, if_neg (by omega), gvSS, show (a - a).toNat = 0 by omega]; rfl, fun _ => by rw [gvSS, show (a - a).toNat = 0 by omega]; rfl⟩
  obtain ⟨w1, b1, b2, b3, b4⟩ := l_scan (C := Ex pro d) (most := most) h0 (n - a).toNat a (sv (sv w 34 8 0) 34 6 0) (by omega) (by omega) ha (hT.mf mf0 (by omega) (fun j => by omega)) S0 (fun i i0 i1 => by omega)
  have er := enF_rg t n (n - a).toNat a
  generalize enF t n (n - a).toNat a = e at *
  have r := cL_rg t a (e - a).toNat
  have k1 : kd w1 34 = 4 := b2.1.1
  have start : ∀ res, Rn (Ex pro d) mX4_readLettersAndDigits (117, [some (rV 34), some (iV (cL t a (e - a).toNat)), some (iV (e - a - cL t a (e - a).toNat)), none, none], [], w1) res → Rn (Ex pro d) mX4_readLettersAndDigits (0, [some (rV 34), none, none, none, none], [], w) res := fun res rr => by
    have q := b1 res rr
    rw [show (a - a).toNat = 0 by omega, show a - a - cL t a 0 = 0 by simp [cL]] at q
    refine Rn.cut ?_ q
    rw [eX4_readLettersAndDigits_0, if_pos k, wl_eq, if_pos (show kd (sv w 34 8 0) 34 = 4 from k), wl_eq]
    rfl
  have fin : ∀ v, (v = if e = a then 1 else knd t a (e - a).toNat) → TxI (sv w1 34 4 v) t n most ∧ gv (sv w1 34 4 v) 34 3 = e ∧ gv (sv w1 34 4 v) 34 4 = (if e = a then 1 else knd t a (e - a).toNat) ∧ (gv (sv w1 34 4 v) 34 4 = 2 → gv (sv w1 34 4 v) 34 8 = cod 32 t a (e - a).toNat) ∧ (gv (sv w1 34 4 v) 34 4 = 3 → gv (sv w1 34 4 v) 34 6 = nm10 t a (e - a).toNat) ∧ Mf w (sv w1 34 4 v) (fun r j => r = 34 ∧ (j = 3 ∨ j = 4 ∨ j = 6 ∨ j = 8)) := fun v hv => by
    have mf4 := Mf.svI w1 34 4 v
    refine ⟨b2.mf mf4 (by omega) (fun j => by omega), by rw [mf4.gvE (by omega)]; exact b3.1, by rw [gvSS]; exact hv, fun z => ?_, fun z => ?_, ((mf0.trans b4).trans mf4).mono (fun r j z => by omega)⟩
    · rw [gvSS, hv] at z
      rw [mf4.gvE (by omega)]
      refine b3.2.1 ?_
      by_cases c : e = a
      · rw [if_pos c] at z; omega
      · rw [if_neg c] at z
        unfold knd at z
        by_cases c2 : cL t a (e - a).toNat = ((e - a).toNat : Int) ∧ (e - a).toNat ≤ 7
        · omega
        · rw [if_neg c2] at z; split at z <;> omega
    · rw [gvSS, hv] at z
      rw [mf4.gvE (by omega)]
      refine b3.2.2 ?_
      by_cases c : e = a
      · rw [if_pos c] at z; omega
      · rw [if_neg c] at z
        unfold knd at z
        by_cases c2 : cL t a (e - a).toNat = ((e - a).toNat : Int) ∧ (e - a).toNat ≤ 7
        · rw [if_pos c2] at z; omega
        · rw [if_neg c2] at z
          by_cases c3 : cL t a (e - a).toNat = 0 ∧ (e - a).toNat ≤ 3
          · omega
          · rw [if_neg c3] at z; omega
  by_cases c1 : e - a - cL t a (e - a).toNat = 0 ∧ 1 ≤ cL t a (e - a).toNat ∧ cL t a (e - a).toNat ≤ 7
  · refine ⟨sv w1 34 4 2, xX4_readLettersAndDigits (start _ (Rn.cut (c' := (137, [some (rV 34), some (iV (cL t a (e - a).toNat)), some (iV (e - a - cL t a (e - a).toNat)), none, none], [iV 1], w1)) ?_ (Rn.ret ?_))), fin 2 ?_⟩
    · rw [eX4_readLettersAndDigits_117, if_pos c1.1, if_neg (by omega), if_neg (by omega)]
    · rw [eX4_readLettersAndDigits_137, if_neg (by omega), if_neg (by decide), if_pos k1, wl_eq]
    · rw [if_neg (by omega)]; unfold knd; rw [if_pos (by omega)]
  · have s117 : sg (Ex pro d) mX4_readLettersAndDigits 2000 117 [some (rV 34), some (iV (cL t a (e - a).toNat)), some (iV (e - a - cL t a (e - a).toNat)), none, none] [] w1 = some (.inl (137, [some (rV 34), some (iV (cL t a (e - a).toNat)), some (iV (e - a - cL t a (e - a).toNat)), none, none], [iV 0], w1)) := by
      rw [eX4_readLettersAndDigits_117]
      by_cases y : e - a - cL t a (e - a).toNat = 0
      · rw [if_pos y]
        by_cases y2 : cL t a (e - a).toNat < 1
        · rw [if_pos y2]
        · rw [if_neg y2, if_pos (by omega)]
      · rw [if_neg y]
    by_cases c2 : cL t a (e - a).toNat = 0 ∧ 1 ≤ e - a - cL t a (e - a).toNat ∧ e - a - cL t a (e - a).toNat ≤ 3
    · refine ⟨sv w1 34 4 3, xX4_readLettersAndDigits (start _ (Rn.cut s117 (Rn.ret ?_))), fin 3 ?_⟩
      · rw [eX4_readLettersAndDigits_137, if_pos c2.1, if_neg (by omega), if_neg (by omega), if_pos rfl, if_neg (by decide), if_pos k1, wl_eq]
      · rw [if_neg (by omega)]; unfold knd; rw [if_neg (by omega), if_pos (by omega)]
    · refine ⟨sv w1 34 4 1, xX4_readLettersAndDigits (start _ (Rn.cut s117 (Rn.ret ?_))), fin 1 ?_⟩
      · rw [eX4_readLettersAndDigits_137]
        by_cases y : cL t a (e - a).toNat = 0
        · rw [if_pos y]
          by_cases y2 : e - a - cL t a (e - a).toNat < 1
          · rw [if_pos y2, if_pos rfl, if_pos rfl, if_pos k1, wl_eq]
          · rw [if_neg y2, if_pos (by omega), if_pos rfl, if_pos rfl, if_pos k1, wl_eq]
        · rw [if_neg y, if_pos rfl, if_pos rfl, if_pos k1, wl_eq]
      · by_cases y : e = a
        · rw [if_pos y]
        · rw [if_neg y]; unfold knd; rw [if_neg (by omega), if_neg (by omega)]
theorem l_ws {L : Int} (hL : L ≤ n) : ∀ (f : Nat) (p : Int) (w : sW), (p + f = L ∨ (f = 0 ∧ L ≤ p)) → 0 ≤ p → TxI w t n most → gv w 34 3 = p → ∃ w', (∀ res, Rn C mX4_advance (72, [some (rV 34), some (iV L)], [], w') res → Rn C mX4_advance (23, [some (rV 34), some (iV L)], [], w) res) ∧ TxI w' t n most ∧ gv w' 34 3 = wsF t L f p ∧ Mf w w' (fun r j => r = 34 ∧ j = 3)
  | 0, p, w, hf, h0, hT, h3 => by
    refine ⟨w, fun res r => Rn.cut ?_ r, hT, h3, Mf.refl _ _⟩
    rw [eX4_advance_23, if_pos hT.1.1, h3, if_neg (by omega)]
  | f + 1, p, w, hf, h0, hT, h3 => by
    have k := hT.1.1
    have n9 := hT.2.2.1
    have tp := hT.2.2.2.2 p (by omega) (by omega)
    have gd : kd w 33 = 20 ∧ 0 ≤ p ∧ p < ln w 33 := ⟨hT.2.1.1, by omega, by rw [hT.2.1.2]; omega⟩
    by_cases c : t p = 32 ∨ t p = 10
    · have mf := Mf.svI w 34 3 (p + 1)
      obtain ⟨w', b1, b2, b3, b4⟩ := l_ws hL f (p + 1) (sv w 34 3 (p + 1)) (by omega) (by omega) (hT.mf mf (by omega) (fun j => by omega)) (gvSS _ _ _ _)
      rw [show wsF t L (f + 1) p = wsF t L f (p + 1) by simp only [wsF]; rw [if_pos ⟨by omega, c⟩]]
      refine ⟨w', fun res r => Rn.cut ?_ (b1 res r), b2, b3, mf.tr b4⟩
      rw [eX4_advance_23, if_pos k, h3, if_pos (by omega), if_pos k, if_pos k, hT.1.2.1, if_pos gd, tp.1]
      by_cases c2 : t p = 32
      · rw [if_pos c2, if_pos k, if_pos k, wl_eq, w32_eq (by omega) (by omega)]
      · rw [if_neg c2, if_pos k, if_pos k, if_pos gd, if_pos (by omega), if_pos k, if_pos k, wl_eq, w32_eq (by omega) (by omega)]
    · rw [show wsF t L (f + 1) p = p by simp only [wsF]; rw [if_neg (fun z => c z.2)]]
      refine ⟨w, fun res r => Rn.cut ?_ r, hT, h3, Mf.refl _ _⟩
      rw [eX4_advance_23, if_pos k, h3, if_pos (by omega), if_pos k, if_pos k, hT.1.2.1, if_pos gd, tp.1, if_neg (by omega), if_pos k, if_pos k, if_pos gd, if_neg (by omega)]
theorem t_advance (hW : WordI w) (hT : TxI w t n most) (h3 : gv w 34 3 = p) (h0 : 0 ≤ p) (hp : p ≤ n) : ∃ w', Ex pro (d + 2) 16 w [rV 34] = some (none, w') ∧ RdI w' t n most p ∧ Mf w w' (fun r j => r = 34 ∧ 3 ≤ j ∧ j ≤ 9) := by
  have k := hT.1.1
  have hL : lim n most ≤ n := by unfold lim; split <;> omega
  obtain ⟨w1, b1, b2, b3, b4⟩ := l_ws (C := Ex pro (d + 1)) (most := most) hL (lim n most - p).toNat p w (by omega) h0 hT h3
  have ar : p ≤ tkA t n most p ∧ tkA t n most p ≤ p + (lim n most - p).toNat := wsF_rg t (lim n most) (lim n most - p).toNat p
  have b3' : gv w1 34 3 = tkA t n most p := b3
  have start : ∀ res, Rn (Ex pro (d + 1)) mX4_advance (72, [some (rV 34), some (iV (lim n most))], [], w1) res → Rn (Ex pro (d + 1)) mX4_advance (0, [some (rV 34), none], [], w) res := fun res r => by
    refine Rn.cut ?_ (b1 res r)
    rw [eX4_advance_0, if_pos k, if_pos k, hT.1.2.2.1, hT.1.2.2.2]
    unfold lim
    by_cases c : n < most
    · rw [if_pos c, if_pos c, if_pos k]
    · rw [if_neg c, if_neg c, if_pos k]
  have mf9 := Mf.svI w1 34 9 0
  have T9 : TxI (sv w1 34 9 0) t n most := b2.mf mf9 (by omega) (fun j => by omega)
  have n9 : gv (sv w1 34 9 0) 34 3 = tkA t n most p := by rw [mf9.gvE (by omega)]; exact b3'
  have k1 : kd w1 34 = 4 := b2.1.1
  have k9 : kd (sv w1 34 9 0) 34 = 4 := k1
  by_cases c : lim n most ≤ tkA t n most p
  · have mf5 := Mf.svI (sv w1 34 9 0) 34 5 (lim n most)
    have T5 : TxI (sv (sv w1 34 9 0) 34 5 (lim n most)) t n most := T9.mf mf5 (by omega) (fun j => by omega)
    have k5 := T5.1.1
    have hK : tkK t n most p = if most < n then 1 else 0 := by unfold tkK; rw [if_pos c]
    have hP : tkP t n most p = lim n most := by unfold tkP; rw [if_pos c]
    have mf4 := fun v => Mf.svI (sv (sv w1 34 9 0) 34 5 (lim n most)) 34 4 v
    refine ⟨sv (sv (sv w1 34 9 0) 34 5 (lim n most)) 34 4 (if most < n then 1 else 0), xX4_advance (start _ (Rn.ret ?_)), ⟨T5.mf (mf4 _) (by omega) (fun j => by omega), by rw [gvSS, hK], by rw [(mf4 _).gvE (by omega), gvSS, hP], fun z => ?_, fun z => ?_, fun z => ?_, fun z => ?_, ?_⟩, ((b4.trans (mf9.trans (mf5.trans (mf4 _)))).mono (fun r j z => by omega))⟩
    · rw [eX4_advance_72, if_pos k1, wl_eq, if_pos k9, n9, if_neg (by omega), if_pos k9, wl_eq, if_pos k5, if_pos k5, T5.1.2.2.1, T5.1.2.2.2]
      by_cases c2 : most < n
      · rw [if_pos c2, if_pos c2, if_pos k5, wl_eq]
      · rw [if_neg c2, if_neg c2, if_pos k5, wl_eq]
    · rw [hK] at z; split at z <;> omega
    · rw [hK] at z; split at z <;> omega
    · rw [hK] at z; split at z <;> omega
    · rw [hK] at z; split at z <;> omega
    · rw [(mf4 _).gvE (by omega), mf5.gvE (by omega), gvSS]
      unfold tkW
      rw [if_neg (by rw [hK]; split <;> omega)]
  · have mf5 := Mf.svI (sv w1 34 9 0) 34 5 (tkA t n most p)
    have T5 : TxI (sv (sv w1 34 9 0) 34 5 (tkA t n most p)) t n most := T9.mf mf5 (by omega) (fun j => by omega)
    have k5 := T5.1.1
    obtain ⟨w3, c1, c2, c3, c4, c5, c6, c7⟩ := t_letters (d := d) (a := tkA t n most p) (by omega) (by omega) T5 (by rw [mf5.gvE (by omega)]; exact n9)
    have k3 := c2.1.1
    have c3' : gv w3 34 3 = tkE t n most p := c3
    have p5 : gv w3 34 5 = tkA t n most p := by rw [c7.gvE (by omega), gvSS]
    have p9 : gv w3 34 9 = 0 := by rw [c7.gvE (by omega), mf5.gvE (by omega), gvSS]
    have W3 : WordI w3 := ((((hW.eq (b4.eqO (fun r j r0 r1 => by omega))).eq (mf9.eqO (fun r j r0 r1 => by omega))).eq (mf5.eqO (fun r j r0 r1 => by omega))).eq (c7.eqO (fun r j r0 r1 => by omega)))
    have hP : tkP t n most p = tkA t n most p := by unfold tkP; rw [if_neg c]
    have base : Mf w w3 (fun r j => r = 34 ∧ 3 ≤ j ∧ j ≤ 9) := (b4.trans (mf9.trans (mf5.trans c7))).mono (fun r j z => by omega)
    by_cases e : tkE t n most p = tkA t n most p
    · have n940 := hT.2.2.1
      have ta := c2.2.2.2.2 (tkA t n most p) (by omega) (by omega)
      have gd : kd w3 33 = 20 ∧ 0 ≤ tkA t n most p ∧ tkA t n most p < ln w3 33 := ⟨c2.2.1.1, by omega, by rw [c2.2.1.2]; omega⟩
      have hK : tkK t n most p = if sgC (t (tkA t n most p)) then 4 else 1 := by unfold tkK; rw [if_neg c, if_pos e]
      have hTo : tkT t n most p = tkA t n most p + 1 := by unfold tkT; rw [if_pos e]
      have fin : ∀ v, v = tkK t n most p → RdI (sv (sv (sv (sv w3 34 7 (t (tkA t n most p))) 34 4 v) 34 3 (tkA t n most p + 1)) 34 9 0) t n most p ∧ Mf w (sv (sv (sv (sv w3 34 7 (t (tkA t n most p))) 34 4 v) 34 3 (tkA t n most p + 1)) 34 9 0) (fun r j => r = 34 ∧ 3 ≤ j ∧ j ≤ 9) := fun v hv => by
        have m7 := Mf.svI w3 34 7 (t (tkA t n most p))
        have m4 := Mf.svI (sv w3 34 7 (t (tkA t n most p))) 34 4 v
        have m3 := Mf.svI (sv (sv w3 34 7 (t (tkA t n most p))) 34 4 v) 34 3 (tkA t n most p + 1)
        have m9 := Mf.svI (sv (sv (sv w3 34 7 (t (tkA t n most p))) 34 4 v) 34 3 (tkA t n most p + 1)) 34 9 0
        have mm : Mf w3 (sv (sv (sv (sv w3 34 7 (t (tkA t n most p))) 34 4 v) 34 3 (tkA t n most p + 1)) 34 9 0) (fun r j => r = 34 ∧ (j = 7 ∨ j = 4 ∨ j = 3 ∨ j = 9)) := (m7.trans (m4.trans (m3.trans m9))).mono (fun r j z => by omega)
        refine ⟨⟨c2.mf mm (by omega) (fun j => by omega), ?_, ?_, fun z => ?_, fun z => ?_, fun z => ?_, fun z => ?_, ?_⟩, (base.trans mm).mono (fun r j z => by omega)⟩
        · rw [m9.gvE (by omega), m3.gvE (by omega), gvSS]; exact hv
        · rw [mm.gvE (by omega), p5, hP]
        · rw [m9.gvE (by omega), gvSS, hTo]
        · rw [hK] at z; split at z <;> omega
        · rw [hK] at z; split at z <;> omega
        · rw [m9.gvE (by omega), m3.gvE (by omega), m4.gvE (by omega), gvSS]; rfl
        · rw [gvSS]
          unfold tkW
          rw [if_neg (by rw [hK]; split <;> omega)]
      have g7 : gv (sv w3 34 7 (t (tkA t n most p))) 34 7 = t (tkA t n most p) := gvSS _ _ _ _
      have k7 : kd (sv w3 34 7 (t (tkA t n most p))) 34 = 4 := k3
      have k4 : ∀ v, kd (sv (sv w3 34 7 (t (tkA t n most p))) 34 4 v) 34 = 4 := fun _ => k3
      have g3 : ∀ v, gv (sv (sv w3 34 7 (t (tkA t n most p))) 34 4 v) 34 3 = tkA t n most p := fun v => by rw [gvS, if_neg (by omega), gvS, if_neg (by omega), c3', e]
      have k8 : ∀ v, kd (sv (sv (sv w3 34 7 (t (tkA t n most p))) 34 4 v) 34 3 (tkA t n most p + 1)) 34 = 4 := fun _ => k3
      have g4 : ∀ v, gv (sv (sv (sv w3 34 7 (t (tkA t n most p))) 34 4 v) 34 3 (tkA t n most p + 1)) 34 4 = v := fun v => by rw [gvS, if_neg (by omega), gvSS]
      refine ⟨_, xX4_advance (start _ (Rn.ret ?_)), fin (tkK t n most p) rfl⟩
      rw [eX4_advance_72, if_pos k1, wl_eq, if_pos k9, n9, if_pos (by omega), if_pos k9, if_pos k9, wl_eq, if_pos k5, c1]
      simp only [bN]
      rw [if_pos k3, if_pos k3, c3', p5, if_pos e, if_pos k3, if_pos k3, c2.1.2.1, e, if_pos gd, if_pos k3, ta.1, wl_eq, if_pos k7, g7, t_isSign]
      simp only [bI, ite10]
      by_cases z : sgC (t (tkA t n most p))
      · rw [if_pos z, hK, if_pos z, if_pos k7, wl_eq, if_pos (k4 _), if_pos (k4 _), g3, w32_eq (by omega) (by omega), wl_eq, if_pos (k8 _), g4, if_neg (by decide), if_pos (k8 _), wl_eq]
      · rw [if_neg z, hK, if_neg z, if_pos k7, wl_eq, if_pos (k4 _), if_pos (k4 _), g3, w32_eq (by omega) (by omega), wl_eq, if_pos (k8 _), g4, if_neg (by decide), if_pos (k8 _), wl_eq]
    · have hK : tkK t n most p = knd t (tkA t n most p) (tkF t n most p) := by unfold tkK; rw [if_neg c, if_neg e]
      have hTo : tkT t n most p = tkE t n most p := by unfold tkT; rw [if_neg e]
      have g4 : gv w3 34 4 = tkK t n most p := by
        have c4' : gv w3 34 4 = (if tkE t n most p = tkA t n most p then 1 else knd t (tkA t n most p) (tkF t n most p)) := c4
        rw [c4', if_neg e, hK]
      have kr := knd_rg t (tkA t n most p) (tkF t n most p)
      have m9 := fun v => Mf.svI w3 34 9 v
      have fin : ∀ v, v = tkW t n most p → RdI (sv w3 34 9 v) t n most p ∧ Mf w (sv w3 34 9 v) (fun r j => r = 34 ∧ 3 ≤ j ∧ j ≤ 9) := fun v hv => by
        refine ⟨⟨c2.mf (m9 v) (by omega) (fun j => by omega), ?_, ?_, fun z => ?_, fun z => ?_, fun z => ?_, fun z => ?_, ?_⟩, (base.trans (m9 v)).mono (fun r j z => by omega)⟩
        · rw [(m9 v).gvE (by omega)]; exact g4
        · rw [(m9 v).gvE (by omega), p5, hP]
        · rw [(m9 v).gvE (by omega), c3', hTo]
        · rw [(m9 v).gvE (by omega)]; exact c5 (by rw [g4]; exact z)
        · rw [(m9 v).gvE (by omega)]; exact c6 (by rw [g4]; exact z)
        · rw [hK] at z; omega
        · rw [gvSS]; exact hv
      refine ⟨sv w3 34 9 (tkW t n most p), xX4_advance (start _ (Rn.ret ?_)), fin _ rfl⟩
      rw [eX4_advance_72, if_pos k1, wl_eq, if_pos k9, n9, if_pos (by omega), if_pos k9, if_pos k9, wl_eq, if_pos k5, c1]
      simp only [bN]
      rw [if_pos k3, if_pos k3, c3', p5, if_neg e, if_pos k3, g4]
      unfold tkW
      by_cases z : tkK t n most p = 2
      · have w8 : gv w3 34 8 = tk32 t n most p := c5 (by rw [g4]; exact z)
        rw [if_pos z, if_pos z, if_pos k3, w8, t_withCode W3, bR_eq (wid_rg _).1, if_pos k3, wl_eq]
      · rw [if_neg z, if_neg z, if_pos k3, wl_eq]
end RE
