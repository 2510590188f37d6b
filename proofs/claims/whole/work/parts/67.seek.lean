/-! ===== bits of the tape: seek ===== -/
/-- f bytes from k on are bits -/
def tb (t : Int → Int) (k : Int) : Nat → Int
  | 0 => 1
  | f + 1 => if t k = 0 ∨ t k = 1 then tb t (k + 1) f else 0
theorem tb_01 (t : Int → Int) : ∀ (f : Nat) (k : Int), tb t k f = 0 ∨ tb t k f = 1
  | 0, k => Or.inr rfl
  | f + 1, k => by
    simp only [tb]
    split
    · exact tb_01 t f (k + 1)
    · exact Or.inl rfl
theorem tb_at {t : Int → Int} : ∀ (f : Nat) (k : Int), tb t k f = 1 → ∀ j, k ≤ j → j < k + f → t j = 0 ∨ t j = 1
  | 0, k, h, j, h1, h2 => by omega
  | f + 1, k, h, j, h1, h2 => by
    simp only [tb] at h
    by_cases c : t k = 0 ∨ t k = 1
    · rw [if_pos c] at h
      by_cases z : j = k
      · rw [z]; exact c
      · exact tb_at f (k + 1) h j (by omega) (by omega)
    · rw [if_neg c] at h; omega
abbrev tpB (t : Int → Int) (n most : Int) : Prop := (1 ≤ n ∧ n ≤ most) ∧ tb t 0 n.toNat = 1
theorem hat_cg {b t u : Int → Int} {i : Int} : ∀ (f : Nat) (q : Int), (∀ k, q ≤ k → k < q + f → t k = u k) → hat b t i q f = hat b u i q f
  | 0, q, h => rfl
  | f + 1, q, h => by
    simp only [hat]
    rw [h q (by omega) (by omega), hat_cg f (q + 1) (fun k k0 k1 => h k (by omega) (by omega))]
theorem hat_01 (b t : Int → Int) (i : Int) : ∀ (f : Nat) (q : Int), hat b t i q f = 0 ∨ hat b t i q f = 1
  | 0, q => Or.inr rfl
  | f + 1, q => by
    simp only [hat]
    split
    · exact hat_01 b t i f (q + 1)
    · exact Or.inl rfl
/-- places that were found -/
def FdI (w : sW) (o fa fn N : Int) (F : Int → Int) (k : Int) : Prop := (gv w o fa = N ∧ kd w N = 20 ∧ ln w N = 600 ∧ 32 ≤ N ∧ N ≠ o ∧ fa ≠ fn) ∧ gv w o fn = k ∧ (0 ≤ k ∧ k ≤ 600) ∧ ∀ i, 0 ≤ i → i < k → gv w N i = F i
theorem FdI.ag {w w' : sW} {o fa fn N k : Int} {F : Int → Int} {P : Int → Int → Prop} (h : FdI w o fa fn N F k) (g : Ag w w' P) (ho : 0 ≤ o ∧ o < nx w) (hN : N < nx w) (h1 : ¬ P o fa) (h2 : ¬ P o fn) (h3 : ∀ j, ¬ P N j) : FdI w' o fa fn N F k := by
  obtain ⟨⟨a1, a2, a3, a4, a5, a6⟩, a7, a8, a9⟩ := h
  refine ⟨⟨by rw [g.gvE ho.1 ho.2 h1]; exact a1, by rw [g.kdE (by omega) hN]; exact a2, by rw [g.lnE (by omega) hN]; exact a3, a4, a5, a6⟩, by rw [g.gvE ho.1 ho.2 h2]; exact a7, a8, fun i i0 i1 => ?_⟩
  rw [g.gvE (by omega) hN (h3 i)]
  exact a9 i i0 i1
theorem FdI.mf {w w' : sW} {o fa fn N k : Int} {F : Int → Int} {P : Int → Int → Prop} (h : FdI w o fa fn N F k) (g : Mf w w' P) (h1 : ¬ P o fa) (h2 : ¬ P o fn) (h3 : ∀ j, ¬ P N j) : FdI w' o fa fn N F k := by
  obtain ⟨⟨a1, a2, a3, a4, a5, a6⟩, a7, a8, a9⟩ := h
  refine ⟨⟨by rw [g.gvE h1]; exact a1, by rw [g.kdE]; exact a2, by rw [g.lnE]; exact a3, a4, a5, a6⟩, by rw [g.gvE h2]; exact a7, a8, fun i i0 i1 => ?_⟩
  rw [g.gvE (h3 i)]
  exact a9 i i0 i1
theorem FdI.put {w : sW} {o fa fn N k : Int} {F : Int → Int} (h : FdI w o fa fn N F k) (hk : k < 600) (v : Int) : FdI (sv (sv w N k v) o fn (k + 1)) o fa fn N (updI F k v) (k + 1) := by
  obtain ⟨⟨a1, a2, a3, a4, a5, a6⟩, a7, a8, a9⟩ := h
  refine ⟨⟨by rw [gvS, if_neg (by omega), gvS, if_neg (by omega)]; exact a1, a2, a3, a4, a5, a6⟩, gvSS _ _ _ _, by omega, fun i i0 i1 => ?_⟩
  rw [gvS, if_neg (by omega), gvS]
  unfold updI
  by_cases c : i = k
  · rw [if_pos ⟨rfl, c⟩, if_pos c]
  · rw [if_neg (fun z => c z.2), if_neg c]; exact a9 i i0 (by omega)
theorem FdI.zero {w : sW} {o fa fn N k : Int} {F : Int → Int} (h : FdI w o fa fn N F k) : FdI (sv w o fn 0) o fa fn N F 0 := by
  obtain ⟨⟨a1, a2, a3, a4, a5, a6⟩, a7, a8, a9⟩ := h
  exact ⟨⟨by rw [gvS, if_neg (by omega)]; exact a1, a2, a3, a4, a5, a6⟩, gvSS _ _ _ _, by omega, fun i i0 i1 => by omega⟩
theorem TpI.zero {w : sW} {o fa fn N n : Int} {t : Int → Int} (h : TpI w o fa fn N t n) : TpI (sv w o fn 0) o fa fn N t 0 := by
  obtain ⟨⟨a1, a2, a3, a4, a5, a6⟩, a7, a8, a9⟩ := h
  exact ⟨⟨by rw [gvS, if_neg (by omega)]; exact a1, a2, a3, a4, a5, a6⟩, gvSS _ _ _ _, by omega, fun i i0 i1 => by rw [gvS, if_neg (by omega)]; exact a9 i i0 i1⟩
/-- the places from i on at which n bits t lie, f places looked at -/
def skF (b t : Int → Int) (n : Int) : Nat → Int → (Int → Int) → Int → (Int → Int) × Int
  | 0, _, F, k => (F, k)
  | f + 1, i, F, k => if hat b t i 0 n.toNat = 0 then skF b t n f (i + 1) F k else skF b t n f (i + 1) (updI F k i) (k + 1)
section SK
variable {d : Nat} {w : sW} {m : Int} {A : Rm} {C : sC}
theorem l_takeB {n0 n : Int} {t : Int → Int} (hk : kd w 32 = 9) (h : TpI w 32 0 1 33 t n0) (hn : n ≤ 940) : ∀ (f : Nat) (k : Int), k + f = n → 0 ≤ k → Rn (Ex pro (d + 1)) mX11_takeBitsOfTape (24, [some (rV 32), none, some (iV n), some (iV k)], [], w) (some (iV (if tb t k f = 1 then n else -1)), w)
  | 0, k, hkf, h0 => by
    refine Rn.ret ?_
    rw [eX11_takeBitsOfTape_24, if_neg (by omega)]
    rfl
  | f + 1, k, hkf, h0 => by
    obtain ⟨⟨a1, a2, a3, a4, a5, a6⟩, a7, a8, a9⟩ := h
    have e := (a9 k h0 (by omega)).1
    by_cases c : t k = 0 ∨ t k = 1
    · have ih := l_takeB hk ⟨⟨a1, a2, a3, a4, a5, a6⟩, a7, a8, a9⟩ hn f (k + 1) (by omega) (by omega)
      rw [show tb t k (f + 1) = tb t (k + 1) f by simp only [tb]; rw [if_pos c]]
      refine Rn.cut ?_ ih
      rw [eX11_takeBitsOfTape_24, if_pos (by omega), if_pos hk, a1, if_pos ⟨a2, h0, by omega⟩, e, p_isBit]
      simp only [bI, ite10]
      rw [if_pos c, w32_eq (by omega) (by omega)]
    · rw [show tb t k (f + 1) = 0 by simp only [tb]; rw [if_neg c], if_neg (by decide)]
      refine Rn.ret ?_
      rw [eX11_takeBitsOfTape_24, if_pos (by omega), if_pos hk, a1, if_pos ⟨a2, h0, by omega⟩, e, p_isBit]
      simp only [bI, ite10]
      rw [if_neg c]
theorem p_take {n most : Int} {t : Int → Int} (hk : kd w 32 = 9) (h : TpI w 32 0 1 33 t n) : Ex pro (d + 2) 121 w [rV 32, iV most] = some (some (iV (if tpB t n most then n else -1)), sv w 32 1 0) := by
  have h7 := h.2.1
  have h8 := h.2.2.1
  have hk0 : kd (sv w 32 1 0) 32 = 9 := hk
  by_cases c : 1 ≤ n ∧ n ≤ most
  · have l := l_takeB (d := d) hk0 h.zero (n := n) h8.2 n.toNat 0 (by omega) (by omega)
    have e : (if tpB t n most then n else -1) = if tb t 0 n.toNat = 1 then n else -1 := by
      by_cases z : tb t 0 n.toNat = 1
      · rw [if_pos z, if_pos ⟨c, z⟩]
      · rw [if_neg z, if_neg (fun y => z y.2)]
    rw [e]
    refine xX11_takeBitsOfTape (Rn.cut ?_ l)
    rw [eX11_takeBitsOfTape_0, if_pos hk, if_pos hk, wl_eq, h7, if_neg (by omega), if_neg (by omega)]
  · rw [if_neg (fun z => c z.1)]
    refine xX11_takeBitsOfTape (Rn.ret ?_)
    rw [eX11_takeBitsOfTape_0, if_pos hk, if_pos hk, wl_eq, h7]
    by_cases y : n < 1
    · rw [if_pos y]
    · rw [if_neg y, if_pos (by omega)]
theorem l_seek {q r n : Int} {t : Int → Int} (q36 : q = 36 ∨ q = 53) (hr : isR A r) (hn : 1 ≤ n ∧ n ≤ 64) : ∀ (f : Nat) (i : Int) (w : sW) (F : Int → Int) (k : Int), (i + n + f = nA A r + 1 ∨ (f = 0 ∧ nA A r < i + n)) → 0 ≤ i → i ≤ 601 → 108 ≤ nx w → NowI w 32 q A → TpI w 32 0 1 33 t 0 → FdI w 32 11 12 89 F k → k ≤ i → ∃ w', Rn (Ex pro (d + 2)) mX11_seek (35, [some (rV 32), none, some (iV n), some (rV (q + 5 + 3 * r)), some (iV i)], [], w) (some (iV (skF (bA A r) t n f i F k).2), w') ∧ FdI w' 32 11 12 89 (skF (bA A r) t n f i F k).1 (skF (bA A r) t n f i F k).2 ∧ Mf w w' (fun r j => (r = 32 ∧ j = 12) ∨ r = 89)
  | 0, i, w, F, k, hf, h0, hi6, hx, hN, hT, hF, hki => by
    have n6 := (hN.lv hr).2.1
    refine ⟨w, Rn.ret ?_, hF, Mf.refl _ _⟩
    rw [eX11_seek_35, if_pos (hN.k5 hr), (hN.at hr).2.1, w32_eq (by omega) (by omega), if_pos (by omega), if_pos hN.1, hF.2.1]
    rfl
  | f + 1, i, w, F, k, hf, h0, hi6, hx, hN, hT, hF, hki => by
    have n6 := (hN.lv hr).2.1
    have a := hN.at hr
    have a9 := hT.2.2.2
    have hh := s_hasAt (d := d) a (i := i) (m := n) (t := 33) h0 (by omega) (by omega) hT.1.2.1 (by rw [hT.1.2.2.1]; omega)
    rw [hat_cg (u := t) n.toNat 0 (fun k k0 k1 => (a9 k k0 (by omega)).1)] at hh
    have hF' := hF
    obtain ⟨⟨f1, f2, f3, f4, f5, f6⟩, f7, f8, f9⟩ := hF'
    have k6 : gv w 32 12 < 600 := by rw [f7]; clear hh; omega
    by_cases c : hat (bA A r) t i 0 n.toNat = 0
    · obtain ⟨w', b1, b2, b3⟩ := l_seek q36 hr hn (t := t) f (i + 1) w F k (by omega) (by omega) (by omega) hx hN hT hF (by omega)
      rw [show skF (bA A r) t n (f + 1) i F k = skF (bA A r) t n f (i + 1) F k by simp only [skF]; rw [if_pos c]]
      refine ⟨w', Rn.cut ?_ b1, b2, b3⟩
      rw [eX11_seek_35, if_pos (hN.k5 hr), a.2.1, w32_eq (x := i + n) (by omega) (by omega), if_neg (by omega), if_pos hN.1, if_pos k6, if_pos hN.1, if_pos (hN.k5 hr), hT.1.1, hh]
      simp only [bI]
      rw [if_pos c, w32_eq (by omega) (by omega)]
    · have mf : Mf w (sv (sv w 89 k i) 32 12 (k + 1)) (fun r j => (r = 32 ∧ j = 12) ∨ r = 89) := ((Mf.svI w 89 k i).trans (Mf.svI _ 32 12 (k + 1))).mono (fun r j z => by omega)
      obtain ⟨w', b1, b2, b3⟩ := l_seek q36 hr hn (t := t) f (i + 1) (sv (sv w 89 k i) 32 12 (k + 1)) (updI F k i) (k + 1) (by omega) (by omega) (by omega) hx (hN.ag mf.ag hx q36 (by omega) (fun r j r0 r1 => by omega)) (hT.mf mf (by omega) (by omega) (fun j => by omega)) (hF.put (by omega) i) (by omega)
      rw [show skF (bA A r) t n (f + 1) i F k = skF (bA A r) t n f (i + 1) (updI F k i) (k + 1) by simp only [skF]; rw [if_neg c]]
      refine ⟨w', Rn.cut ?_ b1, b2, mf.tr b3⟩
      have g1 : kd (sv w 89 k i) 32 = 9 := hN.1
      have g2 : gv (sv w 89 k i) 32 12 = k := by rw [gvS, if_neg (by omega)]; exact f7
      rw [eX11_seek_35, if_pos (hN.k5 hr), a.2.1, w32_eq (x := i + n) (by omega) (by omega), if_neg (by omega), if_pos hN.1, if_pos k6, if_pos hN.1, if_pos (hN.k5 hr), hT.1.1, hh]
      simp only [bI]
      rw [if_neg c, if_pos hN.1, if_pos hN.1, f1, f7, if_pos ⟨⟨f2, f4⟩, by omega, by omega⟩, wl_eq, if_pos g1, if_pos g1, g2, wl_eq, w32_eq (x := k + 1) (by omega) (by omega), w32_eq (by omega) (by omega)]
/-- what seek answers, and what it finds -/
abbrev skV (A : Rm) (t : Int → Int) (n r : Int) : Prop := isR A r ∧ tpB t n 32
def skN (A : Rm) (r n : Int) : Nat := (nA A r - n + 1).toNat
theorem p_seek {q n k : Int} {t F : Int → Int} (q36 : q = 36 ∨ q = 53) (hx : 108 ≤ nx w) (hN : NowI w 32 q A) (hT : TpI w 32 0 1 33 t n) (hF : FdI w 32 11 12 89 F k) (r : Int) : ∃ w', Ex pro (d + 3) 120 w [rV 32, iV r] = some (some (iV (if skV A t n r then (skF (bA A r) t n (skN A r n) 0 F 0).2 else -1)), w') ∧ TpI w' 32 0 1 33 t 0 ∧ FdI w' 32 11 12 89 (if skV A t n r then (skF (bA A r) t n (skN A r n) 0 F 0).1 else F) (if skV A t n r then (skF (bA A r) t n (skN A r n) 0 F 0).2 else k) ∧ Mf w w' (fun r j => (r = 32 ∧ (j = 1 ∨ j = 12)) ∨ r = 89) := by
  have mf1 := Mf.svI w 32 1 0
  have N1 : NowI (sv w 32 1 0) 32 q A := hN.ag mf1.ag hx q36 (by omega) (fun r j r0 r1 => by omega)
  have T1 := hT.zero
  have F1 : FdI (sv w 32 1 0) 32 11 12 89 F k := hF.mf mf1 (by omega) (by omega) (fun j => by omega)
  have tk := p_take (d := d) hN.1 hT (most := 32)
  by_cases v : skV A t n r
  · rw [if_pos v, if_pos v, if_pos v]
    have n6 := (hN.lv v.1).2.1
    have vn := v.2.1
    have mf2 := Mf.svI (sv w 32 1 0) 32 12 0
    obtain ⟨w', b1, b2, b3⟩ := l_seek (d := d) (t := t) (n := n) q36 v.1 (by omega) (skN A r n) 0 (sv (sv w 32 1 0) 32 12 0) F 0 (by unfold skN; omega) (by omega) (by omega) hx (N1.ag mf2.ag hx q36 (by omega) (fun r j r0 r1 => by omega)) (T1.mf mf2 (by omega) (by omega) (fun j => by omega)) F1.zero (by omega)
    refine ⟨w', xX11_seek (Rn.cut ?_ b1), (T1.mf mf2 (by omega) (by omega) (fun j => by omega)).mf b3 (by omega) (by omega) (fun j => by omega), b2, (mf1.trans (mf2.trans b3)).mono (fun r j z => by omega)⟩
    rw [eX11_seek_0, if_pos hN.1, tk, if_pos v.2]
    simp only [bI]
    rw [if_pos N1.1, if_pos N1.k8, N1.yes v.1, if_neg (N1.nz v.1), if_neg (by omega), if_pos N1.1, wl_eq]
  · rw [if_neg v, if_neg v, if_neg v]
    refine ⟨sv w 32 1 0, xX11_seek (Rn.ret ?_), T1, F1, mf1.mono (fun r j z => by omega)⟩
    rw [eX11_seek_0, if_pos hN.1, tk]
    simp only [bI]
    rw [if_pos N1.1, if_pos N1.k8]
    by_cases c : isR A r
    · rw [N1.yes c, if_neg (N1.nz c), if_neg (fun z => v ⟨c, z⟩), if_pos rfl]
    · rw [N1.no c, if_pos rfl]
theorem p_seekAt {k : Int} {F : Int → Int} (hk : kd w 32 = 9) (hF : FdI w 32 11 12 89 F k) (i : Int) : Ex pro (d + 1) 122 w [rV 32, iV i] = some (some (iV (if 0 ≤ i ∧ i < k then F i else -1)), w) := by
  obtain ⟨⟨f1, f2, f3, f4, f5, f6⟩, f7, f8, f9⟩ := hF
  refine xX11_seekAt (Rn.ret ?_)
  rw [eX11_seekAt_0]
  by_cases c : i < 0
  · rw [if_pos c, if_neg (by omega)]
  · rw [if_neg c, if_pos hk, f7]
    by_cases c2 : i < k
    · rw [if_pos c2, if_pos (by omega), if_pos hk, f1, if_pos ⟨f2, by omega, by omega⟩, f9 i (by omega) c2, if_pos (by omega)]
    · rw [if_neg c2, if_neg (by omega)]
theorem o_take {n : Int} {t : Int → Int} (hk : kd w m = 10) (h : TpI w m 1 2 (m + 1) t n) : Ex pro (d + 1) 154 w [rV m] = some (some (iV n), sv w m 2 0) := by
  refine xX12_take (Rn.ret ?_)
  rw [eX12_take_0, if_pos hk, if_pos hk, wl_eq, h.2.1]
theorem l_tapeB {n0 n most : Int} {t : Int → Int} (hk : kd w m = 10) (h : TpI w m 1 2 (m + 1) t n0) (hn : n ≤ 940) : ∀ (f : Nat) (k : Int), (k + f = n ∨ (f = 0 ∧ n ≤ k)) → 0 ≤ k → Rn (Ex pro (d + 1)) mX12_areTapeBits (2, [some (rV m), some (iV n), some (iV most), some (iV k)], [], w) (some (iV (if (1 ≤ n ∧ n ≤ most) ∧ tb t k f = 1 then 1 else 0)), w)
  | 0, k, hkf, h0 => by
    refine Rn.ret ?_
    rw [eX12_areTapeBits_2, if_neg (by omega), o_isIn]
    simp only [bI]
    by_cases c : 1 ≤ n ∧ n ≤ most
    · rw [if_pos c, if_pos (Or.inr rfl), if_pos ⟨c, rfl⟩]
    · rw [if_neg c, if_pos (Or.inl rfl), if_neg (fun z => c z.1)]
  | f + 1, k, hkf, h0 => by
    obtain ⟨⟨a1, a2, a3, a4, a5, a6⟩, a7, a8, a9⟩ := h
    have e := a9 k h0 (by omega)
    by_cases c : t k = 0 ∨ t k = 1
    · have ih := l_tapeB hk ⟨⟨a1, a2, a3, a4, a5, a6⟩, a7, a8, a9⟩ hn (most := most) f (k + 1) (by omega) (by omega)
      rw [show tb t k (f + 1) = tb t (k + 1) f by simp only [tb]; rw [if_pos c]]
      refine Rn.cut ?_ ih
      rw [eX12_areTapeBits_2, if_pos (by omega), if_pos hk, a1, if_pos ⟨a2, h0, by omega⟩, e.1, if_neg (by omega), w32_eq (by omega) (by omega)]
    · rw [show tb t k (f + 1) = 0 by simp only [tb]; rw [if_neg c], if_neg (fun z => by have := z.2; omega)]
      refine Rn.ret ?_
      rw [eX12_areTapeBits_2, if_pos (by omega), if_pos hk, a1, if_pos ⟨a2, h0, by omega⟩, e.1, if_pos (by omega)]
theorem o_tapeB {n0 n most : Int} {t : Int → Int} (hk : kd w m = 10) (h : TpI w m 1 2 (m + 1) t n0) (hn : 0 ≤ n ∧ n ≤ 940) : Ex pro (d + 2) 219 w [rV m, iV n, iV most] = some (some (iV (if tpB t n most then 1 else 0)), w) := xX12_areTapeBits (Rn.cut (eX12_areTapeBits_0 _ _ _ _ _) (l_tapeB (d := d) hk h hn.2 n.toNat 0 (by omega) (by omega)))
theorem l_onTape {n0 n r i : Int} {t : Int → Int} (hA : MoI w m A) (h : TpI w m 1 2 (m + 1) t n0) (hr : isR A r) (hn : n ≤ 940) (hi : 0 ≤ i) (hin : i + n ≤ nA A r) : ∀ (f : Nat) (k : Int), k + f = n → 0 ≤ k → Rn (Ex pro (d + 1)) mX12_isOnTape (3, [some (rV m), some (iV r), some (iV i), some (iV n), some (iV k)], [], w) (some (iV (hat (bA A r) t i k f)), w)
  | 0, k, hkf, h0 => by
    refine Rn.ret ?_
    rw [eX12_isOnTape_3, if_neg (by omega)]
    rfl
  | f + 1, k, hkf, h0 => by
    have n6 := hA.n6 hr
    obtain ⟨⟨a1, a2, a3, a4, a5, a6⟩, a7, a8, a9⟩ := h
    have e := a9 k h0 (by omega)
    have b := hA.bit (d := d) hr (i := i + k) (by omega) (by omega)
    by_cases c : bA A r (i + k) = t k
    · have ih := l_onTape hA ⟨⟨a1, a2, a3, a4, a5, a6⟩, a7, a8, a9⟩ hr hn hi hin f (k + 1) (by omega) (by omega)
      rw [show hat (bA A r) t i k (f + 1) = hat (bA A r) t i (k + 1) f by simp only [hat]; rw [if_pos c]]
      refine Rn.cut ?_ ih
      rw [eX12_isOnTape_3, if_pos (by omega), if_pos hA.1.1, w32_eq (x := i + k) (by omega) (by omega), b]
      simp only [bI]
      rw [if_pos hA.1.1, a1, if_pos ⟨a2, h0, by omega⟩, e.1, if_pos c, w32_eq (by omega) (by omega)]
    · rw [show hat (bA A r) t i k (f + 1) = 0 by simp only [hat]; rw [if_neg c]]
      refine Rn.ret ?_
      rw [eX12_isOnTape_3, if_pos (by omega), if_pos hA.1.1, w32_eq (x := i + k) (by omega) (by omega), b]
      simp only [bI]
      rw [if_pos hA.1.1, a1, if_pos ⟨a2, h0, by omega⟩, e.1, if_neg c]
theorem l_mSeek {r n : Int} {t : Int → Int} (hr : isR A r) (hn : 1 ≤ n ∧ n ≤ 64) : ∀ (f : Nat) (i : Int) (w : sW) (F : Int → Int) (k : Int), (i + n + f = nA A r + 1 ∨ (f = 0 ∧ nA A r < i + n)) → 0 ≤ i → i ≤ 601 → MoI w m A → TpI w m 1 2 (m + 1) t 0 → FdI w m 27 28 (m + 12) F k → k ≤ i → ∃ w', Rn (Ex pro (d + 2)) mX12_seek (37, [some (rV m), some (iV r), some (iV n), some (iV i)], [], w) (some (iV (skF (bA A r) t n f i F k).2), w') ∧ FdI w' m 27 28 (m + 12) (skF (bA A r) t n f i F k).1 (skF (bA A r) t n f i F k).2 ∧ Mf w w' (fun r j => (r = m ∧ j = 28) ∨ r = m + 12)
  | 0, i, w, F, k, hf, h0, hi6, hN, hT, hF, hki => by
    have n6 := hN.n6 hr
    refine ⟨w, Rn.ret ?_, hF, Mf.refl _ _⟩
    rw [eX12_seek_37, if_pos hN.1.1, hN.size hr]
    simp only [bI]
    rw [w32_eq (by omega) (by omega), if_pos (by omega), if_pos hN.1.1, hF.2.1]
    rfl
  | f + 1, i, w, F, k, hf, h0, hi6, hN, hT, hF, hki => by
    have n6 := hN.n6 hr
    have hh : Ex pro (d + 2) 218 w [rV m, iV r, iV i, iV n] = some (some (iV (hat (bA A r) t i 0 n.toNat)), w) := xX12_isOnTape (Rn.cut (eX12_isOnTape_0 _ _ _ _ _ _) (l_onTape (d := d) hN hT hr (by omega) h0 (by omega) n.toNat 0 (by omega) (by omega)))
    have hF' := hF
    obtain ⟨⟨f1, f2, f3, f4, f5, f6⟩, f7, f8, f9⟩ := hF'
    by_cases c : hat (bA A r) t i 0 n.toNat = 0
    · obtain ⟨w', b1, b2, b3⟩ := l_mSeek hr hn (t := t) f (i + 1) w F k (by omega) (by omega) (by omega) hN hT hF (by omega)
      rw [show skF (bA A r) t n (f + 1) i F k = skF (bA A r) t n f (i + 1) F k by simp only [skF]; rw [if_pos c]]
      refine ⟨w', Rn.cut ?_ b1, b2, b3⟩
      rw [eX12_seek_37, if_pos hN.1.1, hN.size hr]
      simp only [bI]
      rw [w32_eq (x := i + n) (by omega) (by omega), if_neg (by omega), if_pos hN.1.1, hh]
      simp only []
      rw [if_pos c, w32_eq (by omega) (by omega)]
    · have mf : Mf w (sv (sv w (m + 12) k i) m 28 (k + 1)) (fun r j => (r = m ∧ j = 28) ∨ r = m + 12) := ((Mf.svI w (m + 12) k i).trans (Mf.svI _ m 28 (k + 1))).mono (fun r j z => by omega)
      obtain ⟨w', b1, b2, b3⟩ := l_mSeek hr hn (t := t) f (i + 1) (sv (sv w (m + 12) k i) m 28 (k + 1)) (updI F k i) (k + 1) (by omega) (by omega) (by omega) (hN.mf mf (by omega) (fun j hj => by omega)) (hT.mf mf (by omega) (by omega) (fun j => by omega)) (hF.put (by omega) i) (by omega)
      rw [show skF (bA A r) t n (f + 1) i F k = skF (bA A r) t n f (i + 1) (updI F k i) (k + 1) by simp only [skF]; rw [if_neg c]]
      refine ⟨w', Rn.cut ?_ b1, b2, mf.tr b3⟩
      have g1 : kd (sv w (m + 12) k i) m = 10 := hN.1.1
      have g2 : gv (sv w (m + 12) k i) m 28 = k := by rw [gvS, if_neg (by omega)]; exact f7
      rw [eX12_seek_37, if_pos hN.1.1, hN.size hr]
      simp only [bI]
      rw [w32_eq (x := i + n) (by omega) (by omega), if_neg (by omega), if_pos hN.1.1, hh]
      simp only []
      rw [if_neg c, if_pos hN.1.1, if_pos hN.1.1, f1, f7, if_pos ⟨⟨f2, f4⟩, by omega, by omega⟩, wl_eq, if_pos g1, if_pos g1, g2, wl_eq, w32_eq (x := k + 1) (by omega) (by omega), w32_eq (by omega) (by omega)]
theorem q_seek {n k : Int} {t F : Int → Int} (hN : MoI w m A) (hT : TpI w m 1 2 (m + 1) t n) (hF : FdI w m 27 28 (m + 12) F k) (r : Int) : ∃ w', Ex pro (d + 3) 220 w [rV m, iV r] = some (some (iV (if skV A t n r then (skF (bA A r) t n (skN A r n) 0 F 0).2 else -1)), w') ∧ TpI w' m 1 2 (m + 1) t 0 ∧ FdI w' m 27 28 (m + 12) (if skV A t n r then (skF (bA A r) t n (skN A r n) 0 F 0).1 else F) (if skV A t n r then (skF (bA A r) t n (skN A r n) 0 F 0).2 else k) ∧ Mf w w' (fun r j => (r = m ∧ (j = 0 ∨ j = 2 ∨ j = 28)) ∨ r = m + 12) := by
  have mf0 := Mf.svI w m 0 0
  have N0 := hN.t0
  have T0 : TpI (sv w m 0 0) m 1 2 (m + 1) t n := hT.mf mf0 (by omega) (by omega) (fun j => by omega)
  have F0 : FdI (sv w m 0 0) m 27 28 (m + 12) F k := hF.mf mf0 (by omega) (by omega) (fun j => by omega)
  have mf1 := Mf.svI (sv w m 0 0) m 2 0
  have N1 : MoI (sv (sv w m 0 0) m 2 0) m A := N0.mf mf1 (by omega) (fun j hj => by omega)
  have T1 := T0.zero
  have F1 : FdI (sv (sv w m 0 0) m 2 0) m 27 28 (m + 12) F k := F0.mf mf1 (by omega) (by omega) (fun j => by omega)
  have tk := o_take (d := d + 1) N0.1.1 T0
  have n8 := hT.2.2.1
  have ab := o_tapeB (d := d) N1.1.1 T1 (n := n) (most := 32) n8
  by_cases v : skV A t n r
  · rw [if_pos v, if_pos v, if_pos v]
    have n6 := hN.n6 v.1
    have vn := v.2.1
    have mf2 := Mf.svI (sv (sv w m 0 0) m 2 0) m 28 0
    obtain ⟨w', b1, b2, b3⟩ := l_mSeek (d := d) (m := m) (t := t) (n := n) v.1 (by omega) (skN A r n) 0 (sv (sv (sv w m 0 0) m 2 0) m 28 0) F 0 (by unfold skN; omega) (by omega) (by omega) (N1.mf mf2 (by omega) (fun j hj => by omega)) (T1.mf mf2 (by omega) (by omega) (fun j => by omega)) F1.zero (by omega)
    refine ⟨w', xX12_seek (Rn.cut ?_ b1), (T1.mf mf2 (by omega) (by omega) (fun j => by omega)).mf b3 (by omega) (by omega) (fun j => by omega), b2, (mf0.trans (mf1.trans (mf2.trans b3))).mono (fun r j z => by omega)⟩
    rw [eX12_seek_0, if_pos hN.1.1, wl_eq, if_pos N0.1.1, tk]
    simp only [bI]
    rw [if_pos N1.1.1, N1.isRow r]
    simp only [ite10]
    rw [if_pos v.1, if_pos N1.1.1, ab]
    simp only [ite10]
    rw [if_pos v.2, if_pos N1.1.1, wl_eq]
  · rw [if_neg v, if_neg v, if_neg v]
    refine ⟨sv (sv w m 0 0) m 2 0, xX12_seek (Rn.ret ?_), T1, F1, (mf0.trans mf1).mono (fun r j z => by omega)⟩
    rw [eX12_seek_0, if_pos hN.1.1, wl_eq, if_pos N0.1.1, tk]
    simp only [bI]
    rw [if_pos N1.1.1, N1.isRow r]
    simp only [ite10]
    by_cases c : isR A r
    · rw [if_pos c, if_pos N1.1.1, ab]
      simp only [ite10]
      rw [if_neg (fun z => v ⟨c, z⟩)]
    · rw [if_neg c]
theorem q_seekAt {k : Int} {F : Int → Int} (hk : kd w m = 10) (hF : FdI w m 27 28 (m + 12) F k) (i : Int) : Ex pro (d + 2) 221 w [rV m, iV i] = some (some (iV (if 0 ≤ i ∧ i < k then F i else -1)), sv w m 0 0) := by
  have mf0 := Mf.svI w m 0 0
  have F0 : FdI (sv w m 0 0) m 27 28 (m + 12) F k := hF.mf mf0 (by omega) (by omega) (fun j => by omega)
  have k0 : kd (sv w m 0 0) m = 10 := hk
  obtain ⟨⟨f1, f2, f3, f4, f5, f6⟩, f7, f8, f9⟩ := F0
  refine xX12_seekAt (Rn.ret ?_)
  rw [eX12_seekAt_0, if_pos hk, wl_eq, if_pos k0, f7, w32_eq (by omega) (by omega), o_isIn]
  simp only [bI, ite10]
  by_cases c : 0 ≤ i ∧ i < k
  · rw [if_pos (by omega), if_pos k0, f1, if_pos ⟨f2, by omega, by omega⟩, f9 i c.1 c.2, if_pos c]
  · rw [if_neg (by omega), if_neg c]
end SK
