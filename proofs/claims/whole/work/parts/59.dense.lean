/-! ===== how dense, how loaded, where the middle is ===== -/
abbrev deC (A : Rm) (r i n : Int) : Prop := isR A r ∧ 0 ≤ i ∧ 1 ≤ n ∧ i + n ≤ nA A r
def deF (A : Rm) (r i n : Int) : Int := ftF (cnt (bA A r) 1 i n.toNat) n
abbrev loC (A : Rm) (r : Int) : Prop := isR A r ∧ 0 < nA A r
def loF (A : Rm) (r : Int) : Int := ftF (32 * cosF (lA A r) (kA A r)) (nA A r)
abbrev ceC (A : Rm) (r h : Int) : Prop := isR A r ∧ (h = 0 ∨ h = 1) ∧ ¬ cnt (bA A r) 1 0 (nA A r).toNat = 0
def ceF (A : Rm) (r h : Int) : Int := if h = 0 then w32 (dbF (smp (bA A r) 0 (nA A r).toNat) (cnt (bA A r) 1 0 (nA A r).toNat) / 4294967296) else w32 (dbF (smp (bA A r) 0 (nA A r).toNat) (cnt (bA A r) 1 0 (nA A r).toNat))
theorem smp_le (b : Int → Int) : ∀ (f : Nat) (p : Int), 0 ≤ p → p + f ≤ 600 → 0 ≤ smp b p f ∧ smp b p f ≤ 600 * f
  | 0, p, h0, h1 => by simp [smp]
  | f + 1, p, h0, h1 => by
    have := smp_le b f (p + 1) (by omega) (by omega)
    simp only [smp]
    split <;> omega
theorem cos_rg {l : Int → Int} {k : Int} (hk : 0 ≤ k ∧ k ≤ 150) (hl : ∀ j, 0 ≤ j → j < k → 0 ≤ l j ∧ l j ≤ 1000) : 0 ≤ cosF l k ∧ cosF l k ≤ 7000 := by
  have := cst_le (l := l) k.toNat 0 (fun x x0 x1 => hl x x0 (by omega))
  unfold cosF
  split <;> omega
section DE
variable {d : Nat} {w : sW} {m x q : Int} {A : Rm}
theorem p_dense (h : NowI w x q A) {r i n : Int} (hi : in32 i) (hn : in32 n) : Ex pro (d + 3) 115 w [rV x, iV r, iV i, iV n] = some (if deC A r i n then (some (iV (deF A r i n)), w) else (some (rV (-7)), bp w 1 6)) := by
  refine xX11_dense (Rn.ret ?_)
  rw [eX11_dense_0, if_pos h.1, if_pos h.k8]
  by_cases c : isR A r
  · have n6 := (h.lv c).2.1
    rw [h.yes c, if_neg (h.nz c)]
    by_cases c1 : n < 1
    · rw [if_pos c1, if_neg (fun z => by have := z.2.2.1; omega)]
    · rw [if_neg c1, if_pos (h.k5 c), s_hasRange (h.at c) hn]
      simp only [bI, ite10]
      by_cases c2 : 0 ≤ i ∧ 0 ≤ n ∧ i + n ≤ nA A r
      · have b := cnt_le (bA A r) 1 n.toNat i
        have rg := ft_rg (a := cnt (bA A r) 1 i n.toNat) (b := n) (by omega) (by omega)
        rw [if_pos c2, if_pos (h.k5 c), s_countIn (h.at c) hn, if_pos c2]
        simp only [ite10]
        rw [t_asBits (by omega) (by omega) (Or.inl ⟨rfl, rfl⟩)]
        simp only [bL]
        rw [if_pos (⟨c, c2.1, by omega, c2.2.2⟩ : deC A r i n)]
        have e : (if cnt (bA A r) 1 i n.toNat = 0 then 0 else (fE (cnt (bA A r) 1 i n.toNat) n + 127 - 1) * 2 ^ ((24 : Int) - 1).toNat + fQ (cnt (bA A r) 1 i n.toNat) n ((24 : Int) - 1).toNat) = deF A r i n := by
          unfold deF ftF
          rw [show ((24 : Int) - 1).toNat = 23 from rfl, show (2 : Int) ^ 23 = 8388608 by decide]
          split
          · rfl
          · omega
        rw [e]
        unfold deF
        rw [w32_eq (by omega) (by omega)]
      · rw [if_neg c2, if_neg (fun z => c2 ⟨z.2.1, by omega, z.2.2.2⟩)]
  · rw [h.no c, if_pos rfl, if_neg (fun z => c z.1)]
theorem q_dense (h : MoI w m A) {r i n : Int} (hi : in32 i) (hn : in32 n) : ∃ W, Ex pro (d + 4) 211 w [rV m, iV r, iV i, iV n] = some (some (iV (if deC A r i n then deF A r i n else 0)), W) ∧ Qf w W m ∧ gv W m 0 = if deC A r i n then 0 else 1 := by
  have h' := h.t0
  have k0 := h.1.1
  have k1 := h'.1.1
  unfold in32 at hi hn
  by_cases c : deC A r i n
  · have n6 := h.n6 c.1
    have b := cnt_le (bA A r) 1 n.toNat i
    obtain ⟨c1, c2, c3, c4⟩ := c
    obtain ⟨v, e⟩ := o_asFloat (d := d + 1) (w := sv w m 0 0) (m := m) k1 (a := cnt (bA A r) 1 i n.toNat) (b := n) (by omega) (by omega)
    refine ⟨if cnt (bA A r) 1 i n.toNat = 0 then sv w m 0 0 else sv (sv w m 0 0) m 26 v, xX12_dense (Rn.ret ?_), ?_, ?_⟩
    · rw [eX12_dense_0, if_pos k0, wl_eq, if_pos k1, h'.isRow r]
      simp only [bI, ite10]
      rw [if_pos c1, if_neg (by omega), if_neg (by omega), if_pos k1, h'.size c1]
      simp only [ite10]
      rw [if_neg (by omega), if_pos k1, h'.size c1]
      simp only [ite10]
      rw [w32_eq (x := nA A r - n) (by omega) (by omega), if_neg (by omega), if_pos k1, w32_eq (x := i + n) (by omega) (by omega), h'.ones c1 c2 c4, show (i + n - i).toNat = n.toNat by omega]
      simp only [ite10]
      rw [if_pos k1, e, if_pos (⟨c1, c2, c3, c4⟩ : deC A r i n)]
      rfl
    · split
      · exact Qf.t w m 0
      · exact (Qf.t w m 0).trans (Qf.p _ m v)
    · rw [if_pos (⟨c1, c2, c3, c4⟩ : deC A r i n)]
      split
      · rw [gvSS]
      · rw [gvS, if_neg (by omega), gvSS]
  · refine ⟨sv w m 0 1, xX12_dense (Rn.ret ?_), Qf.t w m 1, by rw [if_neg c, gvSS]⟩
    rw [if_neg c, eX12_dense_0, if_pos k0, wl_eq, if_pos k1, h'.isRow r]
    simp only [bI, ite10]
    by_cases c1 : isR A r
    · have n6 := h.n6 c1
      rw [if_pos c1, if_pos k1, o_refuse k1]
      simp only []
      rw [sv_sv]
      by_cases c2 : i < 0
      · rw [if_pos c2]
      · rw [if_neg c2]
        by_cases c3 : n < 1
        · rw [if_pos c3]
        · rw [if_neg c3, if_pos k1, h'.size c1]
          simp only []
          by_cases c4 : nA A r < n
          · rw [if_pos c4, if_pos k1, o_refuse k1]
            simp only []
            rw [sv_sv]
          · rw [if_neg c4, if_pos k1, h'.size c1]
            simp only []
            rw [w32_eq (by omega) (by omega), if_pos (by have := fun z => c ⟨c1, by omega, by omega, z⟩; omega), if_pos k1, o_refuse k1]
            simp only []
            rw [sv_sv]
    · rw [if_neg c1, if_pos k1, o_refuse k1]
      simp only [ite10]
      rw [sv_sv]
theorem p_load (h : NowI w x q A) (r : Int) : Ex pro (d + 3) 116 w [rV x, iV r] = some (if loC A r then (some (iV (loF A r)), w) else (some (rV (-7)), bp w 1 6)) := by
  refine xX11_load (Rn.ret ?_)
  rw [eX11_load_0, if_pos h.1, if_pos h.k8]
  by_cases c : isR A r
  · have n6 := (h.lv c).2.1
    have a := h.at c
    have cr := cos_rg a.2.2.2.2.1 (h.l10 c)
    rw [h.yes c, if_neg (h.nz c), if_pos (h.k5 c), a.2.1]
    by_cases c1 : nA A r = 0
    · rw [if_pos c1, if_neg (fun z => by have := z.2; omega)]
    · have rg := ft_rg (a := 32 * cosF (lA A r) (kA A r)) (b := nA A r) (by omega) (by omega)
      rw [if_neg c1, t_cost a (h.l10 c)]
      simp only [bI, ite10]
      rw [if_pos (h.k5 c), a.2.1, w32_eq (x := 32 * cosF (lA A r) (kA A r)) (by omega) (by omega), t_asBits (by omega) (by omega) (Or.inl ⟨rfl, rfl⟩)]
      simp only [bL]
      rw [if_pos (⟨c, by omega⟩ : loC A r)]
      have e : (if 32 * cosF (lA A r) (kA A r) = 0 then 0 else (fE (32 * cosF (lA A r) (kA A r)) (nA A r) + 127 - 1) * 2 ^ ((24 : Int) - 1).toNat + fQ (32 * cosF (lA A r) (kA A r)) (nA A r) ((24 : Int) - 1).toNat) = loF A r := by
        unfold loF ftF
        rw [show ((24 : Int) - 1).toNat = 23 from rfl, show (2 : Int) ^ 23 = 8388608 by decide]
        split
        · rfl
        · omega
      rw [e]
      unfold loF
      rw [w32_eq (by omega) (by omega)]
  · rw [h.no c, if_pos rfl, if_neg (fun z => c z.1)]
theorem q_load (h : MoI w m A) (r : Int) : ∃ W, Ex pro (d + 4) 212 w [rV m, iV r] = some (some (iV (if loC A r then loF A r else 0)), W) ∧ Qf w W m ∧ gv W m 0 = if loC A r then 0 else 1 := by
  have h' := h.t0
  have k0 := h.1.1
  have k1 := h'.1.1
  by_cases c : loC A r
  · have n6 := h.n6 c.1
    obtain ⟨c1, c2⟩ := c
    have cr : 0 ≤ cosF (lA A r) (kA A r) ∧ cosF (lA A r) (kA A r) ≤ 7000 := cos_rg (l := lA A r) (h.k15 c1) (fun j j0 j1 => by have := h.lb c1 j0 j1; show 0 ≤ lA A r j ∧ lA A r j ≤ 1000; omega)
    obtain ⟨v, e⟩ := o_asFloat (d := d + 1) (w := sv w m 0 0) (m := m) k1 (a := 32 * cosF (lA A r) (kA A r)) (b := nA A r) (by omega) (by omega)
    refine ⟨if 32 * cosF (lA A r) (kA A r) = 0 then sv w m 0 0 else sv (sv w m 0 0) m 26 v, xX12_load (Rn.ret ?_), ?_, ?_⟩
    · rw [eX12_load_0, if_pos k0, wl_eq, if_pos k1, h'.isRow r]
      simp only [bI, ite10]
      rw [if_pos c1, if_pos k1, h'.size c1]
      simp only [ite10]
      rw [if_pos c2, if_pos k1, h'.cost c1]
      simp only [ite10]
      rw [if_pos k1, h'.size c1]
      simp only [ite10]
      rw [if_pos k1, w32_eq (x := 32 * cosF (lA A r) (kA A r)) (by omega) (by omega), e, if_pos (⟨c1, c2⟩ : loC A r)]
      rfl
    · split
      · exact Qf.t w m 0
      · exact (Qf.t w m 0).trans (Qf.p _ m v)
    · rw [if_pos (⟨c1, c2⟩ : loC A r)]
      split
      · rw [gvSS]
      · rw [gvS, if_neg (by omega), gvSS]
  · refine ⟨sv w m 0 1, xX12_load (Rn.ret ?_), Qf.t w m 1, by rw [if_neg c, gvSS]⟩
    rw [if_neg c, eX12_load_0, if_pos k0, wl_eq, if_pos k1, h'.isRow r]
    simp only [bI, ite10]
    by_cases c1 : isR A r
    · rw [if_pos c1, if_pos k1, h'.size c1]
      simp only [ite10]
      rw [if_neg (fun z => c ⟨c1, z⟩), if_pos k1, o_refuse k1]
      simp only [ite10]
      rw [sv_sv]
    · rw [if_neg c1, if_pos k1, o_refuse k1]
      simp only [ite10]
      rw [sv_sv]
theorem p_centre (h : NowI w x q A) (r e : Int) : Ex pro (d + 3) 117 w [rV x, iV r, iV e] = some (if ceC A r e then (some (iV (ceF A r e)), w) else (some (rV (-7)), bp w 1 6)) := by
  refine xX11_centre (Rn.ret ?_)
  rw [eX11_centre_0, if_pos h.1, if_pos h.k8]
  by_cases c : isR A r
  · have n6 := (h.lv c).2.1
    have a := h.at c
    have b := cnt_le (bA A r) 1 (nA A r).toNat 0
    have s := smp_le (bA A r) (nA A r).toNat 0 (by omega) (by omega)
    rw [h.yes c, if_neg (h.nz c), if_pos (h.k5 c), if_pos (h.k5 c), a.2.1, s_countIn a (by unfold in32; omega), if_pos (by omega)]
    simp only [bI, ite10]
    rw [if_neg (h.nz c)]
    by_cases c1 : cnt (bA A r) 1 0 (nA A r).toNat = 0
    · rw [if_pos c1, if_neg (fun z => z.2.2 c1)]
    · rw [if_neg c1, p_isBit]
      simp only [ite10]
      by_cases c2 : e = 0 ∨ e = 1
      · have rg := db_rg (a := smp (bA A r) 0 (nA A r).toNat) (b := cnt (bA A r) 1 0 (nA A r).toNat) (by omega) (by omega)
        rw [if_pos c2, if_pos (h.k5 c), s_sumOfPlaces a]
        simp only [ite10]
        rw [t_asBits (by omega) (by omega) (Or.inr ⟨rfl, rfl⟩)]
        simp only [bL]
        rw [if_pos (⟨c, c2, c1⟩ : ceC A r e)]
        have e' : (if smp (bA A r) 0 (nA A r).toNat = 0 then 0 else (fE (smp (bA A r) 0 (nA A r).toNat) (cnt (bA A r) 1 0 (nA A r).toNat) + 1023 - 1) * 2 ^ ((53 : Int) - 1).toNat + fQ (smp (bA A r) 0 (nA A r).toNat) (cnt (bA A r) 1 0 (nA A r).toNat) ((53 : Int) - 1).toNat) = dbF (smp (bA A r) 0 (nA A r).toNat) (cnt (bA A r) 1 0 (nA A r).toNat) := by
          unfold dbF
          rw [show ((53 : Int) - 1).toNat = 52 from rfl, show (2 : Int) ^ 52 = 4503599627370496 by decide]
          split
          · rfl
          · omega
        rw [e', z_lushr rg.1 rg.2 (by decide), show (2 : Int) ^ (32 : Int).toNat = 4294967296 by decide]
        unfold ceF
        split <;> rfl
      · rw [if_neg c2, if_neg (fun z => c2 z.2.1)]
  · rw [h.no c, if_pos rfl, if_pos rfl, if_neg (fun z => c z.1)]
theorem l_mCentre (h : MoI w m A) {r e : Int} (hr : isR A r) {res : Option sV × sW} : ∀ (f : Nat) (y z p : Int), p + f = nA A r → 0 ≤ p → (0 ≤ y ∧ y ≤ p) → (0 ≤ z ∧ z ≤ 600 * p) → Rn (Ex pro (d + 3)) mX12_centre (35, [some (rV m), some (iV r), some (iV e), some (iV (y + cnt (bA A r) 1 p f)), some (iV (z + smp (bA A r) p f)), some (iV (p + f)), none], [], w) res → Rn (Ex pro (d + 3)) mX12_centre (35, [some (rV m), some (iV r), some (iV e), some (iV y), some (iV z), some (iV p), none], [], w) res
  | 0, y, z, p, hp, h0, hy, hz, g => by simpa [cnt, smp] using g
  | f + 1, y, z, p, hp, h0, hy, hz, g => by
    have n6 := h.n6 hr
    have b := h.b01 hr h0 (by omega)
    have e1 : y + (if bA A r p = 1 then 1 else 0) + cnt (bA A r) 1 (p + 1) f = y + cnt (bA A r) 1 p (f + 1) := by simp only [cnt]; omega
    have e2 : z + (if bA A r p = 1 then p else 0) + smp (bA A r) (p + 1) f = z + smp (bA A r) p (f + 1) := by simp only [smp]; omega
    have ih := l_mCentre h hr (e := e) (res := res) f (y + if bA A r p = 1 then 1 else 0) (z + if bA A r p = 1 then p else 0) (p + 1) (by omega) (by omega) (by split <;> omega) (by split <;> omega) (by rw [e1, e2, show p + 1 + (f : Int) = p + ((f + 1 : Nat) : Int) by omega]; exact g)
    refine Rn.cut ?_ ih
    rw [eX12_centre_35, if_pos h.1.1, h.size hr]
    simp only [bI, ite10]
    rw [if_pos (by omega), if_pos h.1.1, h.bit hr h0 (by omega)]
    simp only [ite10]
    rw [w32_eq (x := y + 1) (by omega) (by omega), w32_eq (x := z + p) (by omega) (by omega), w32_eq (x := p + 1) (by omega) (by omega)]
    rcases b with c | c
    · rw [if_pos c, if_neg (by omega), if_neg (by omega), Int.add_zero, Int.add_zero]
    · rw [if_neg (by omega), if_pos c, if_pos c]
theorem q_centre (h : MoI w m A) (r e : Int) : ∃ W, Ex pro (d + 4) 213 w [rV m, iV r, iV e] = some (some (iV (if ceC A r e then ceF A r e else 0)), W) ∧ Qf w W m ∧ gv W m 0 = if ceC A r e then 0 else 1 := by
  have h' := h.t0
  have k0 := h.1.1
  have k1 := h'.1.1
  by_cases c0 : isR A r ∧ (e = 0 ∨ e = 1)
  · have n6 := h.n6 c0.1
    have b := cnt_le (bA A r) 1 (nA A r).toNat 0
    have s := smp_le (bA A r) (nA A r).toNat 0 (by omega) (by omega)
    have start : ∀ res, Rn (Ex pro (d + 3)) mX12_centre (35, [some (rV m), some (iV r), some (iV e), some (iV (cnt (bA A r) 1 0 (nA A r).toNat)), some (iV (smp (bA A r) 0 (nA A r).toNat)), some (iV (nA A r)), none], [], sv w m 0 0) res → Rn (Ex pro (d + 3)) mX12_centre (0, [some (rV m), some (iV r), some (iV e), none, none, none, none], [], w) res := fun res g => by
      refine Rn.cut ?_ (l_mCentre (d := d) h' (r := r) (e := e) c0.1 (res := res) (nA A r).toNat 0 0 0 (by omega) (by omega) (by omega) (by omega) (by rw [Int.zero_add, Int.zero_add, show (0 : Int) + ((nA A r).toNat : Int) = nA A r by omega]; exact g))
      rw [eX12_centre_0, if_pos k0, wl_eq, if_pos k1, h'.isRow r]
      simp only [bI, ite10]
      rw [if_pos c0.1, o_isIn]
      simp only [ite10]
      rw [if_pos (show 0 ≤ e ∧ e ≤ 1 by omega)]
    by_cases c1 : cnt (bA A r) 1 0 (nA A r).toNat = 0
    · have cn : ¬ ceC A r e := fun z => z.2.2 c1
      refine ⟨sv w m 0 1, xX12_centre (start _ (Rn.ret ?_)), Qf.t w m 1, by rw [if_neg cn, gvSS]⟩
      rw [eX12_centre_35, if_pos k1, h'.size c0.1, if_neg cn]
      simp only [bI, ite10]
      rw [if_neg (by omega), if_pos c1, if_pos k1, o_refuse k1]
      simp only [ite10]
      rw [sv_sv]
    · have cy : ceC A r e := ⟨c0.1, c0.2, c1⟩
      obtain ⟨v, e1⟩ := o_asDouble (d := d + 1) (w := sv w m 0 0) (m := m) k1 (a := smp (bA A r) 0 (nA A r).toNat) (b := cnt (bA A r) 1 0 (nA A r).toNat) (by omega) (by omega)
      have rg := db_rg (a := smp (bA A r) 0 (nA A r).toNat) (b := cnt (bA A r) 1 0 (nA A r).toNat) (by omega) (by omega)
      refine ⟨if smp (bA A r) 0 (nA A r).toNat = 0 then sv w m 0 0 else sv (sv w m 0 0) m 26 v, xX12_centre (start _ (Rn.ret ?_)), ?_, ?_⟩
      · rw [eX12_centre_35, if_pos k1, h'.size c0.1, if_pos cy]
        simp only [bI, ite10]
        rw [if_neg (by omega), if_neg c1, if_pos k1, e1]
        simp only [bL]
        rw [z_lshr rg.1 rg.2 (by decide), show (2 : Int) ^ (32 : Int).toNat = 4294967296 by decide]
        unfold ceF
        split <;> rfl
      · split
        · exact Qf.t w m 0
        · exact (Qf.t w m 0).trans (Qf.p _ m v)
      · rw [if_pos cy]
        split
        · rw [gvSS]
        · rw [gvS, if_neg (by omega), gvSS]
  · have cn : ¬ ceC A r e := fun z => c0 ⟨z.1, z.2.1⟩
    refine ⟨sv w m 0 1, xX12_centre (Rn.ret ?_), Qf.t w m 1, by rw [if_neg cn, gvSS]⟩
    rw [if_neg cn, eX12_centre_0, if_pos k0, wl_eq, if_pos k1, h'.isRow r]
    simp only [bI, ite10]
    by_cases c1 : isR A r
    · rw [if_pos c1, o_isIn]
      simp only [ite10]
      rw [if_neg (show ¬ (0 ≤ e ∧ e ≤ 1) from fun z => c0 ⟨c1, by omega⟩), if_pos k1, o_refuse k1]
      simp only [ite10]
      rw [sv_sv]
    · rw [if_neg c1, if_pos k1, o_refuse k1]
      simp only [ite10]
      rw [sv_sv]
end DE
