/-! ===== conditions of a sentence: the reference ===== -/
section MC
variable {d : Nat} {m : Int} {t : Int → Int} {n most wi : Int} {A : Rm} {sa : Int → Int → Rs}
/-- the reading went wrong: S -/
def MBad (w' : sW) (m : Int) (t : Int → Int) (n most : Int) (x : Int) (S : Ts) : Prop := x = 0 ∧ S.1 ≠ 0 ∧ RsM w' m t n most S
/-- the ands are through -/
def MAnd (w w' : sW) (m : Int) (t : Int → Int) (n most : Int) (A : Rm) (sa : Int → Int → Rs) (wi : Int) (k : Nat) (b x : Int) (g : Nat) (fa : Sb) (p c : Int) : Prop :=
  x = 1 ∧ ∃ (g' : Nat) (fa' : Sb) (p' c' : Int) (k' : Nat), g' ≤ g ∧ 21 ≤ c' + g' ∧ c ≤ c' ∧ StM w' m t n most A p' c' k' wi ∧ k ≤ k' ∧ (k' : Int) ≤ b + 2 * c' ∧ (∀ x, 0 ≤ x → x < 4 * (k : Int) → gv w' (m + 15) x = gv w (m + 15) x) ∧ Nd (gv w' (m + 15)) A.1 k' (gv w' m 38) fa' ∧ tkW t n most p' ≠ 13 ∧ ∀ wt fo, cdF t n most sa g wt fo fa p c = cdF t n most sa g' wt fo fa' p' c'
theorem l_mAnd (H : OneM (d + 4) m t n most A wi sa) (hs : ∀ p c, 0 ≤ p → 0 ≤ c → c ≤ 20 → RsOk n p c (sa p c)) : ∀ (g : Nat) (fa : Sb) (w : sW) (p c a b : Int) (k : Nat), 21 ≤ c + g → StM w m t n most A p c k wi → Nd (gv w (m + 15)) A.1 k a fa → (k : Int) ≤ b + 2 * c → b ≤ -1 → ∃ w' x, Rn (Ex pro (d + 4)) mX12_readAnd (14, [some (rV m), some (iV a)], [], w) (some (iV x), w') ∧ Mf w w' (smP m) ∧ ((∃ S, MBad w' m t n most x S ∧ ∀ wt fo, (cdF t n most sa g wt fo fa p c).1 = S) ∨ MAnd w w' m t n most A sa wi k b x g fa p c)
  | 0, fa, w, p, c, a, b, k, hg, h, hN, hb, hb1 => by
    have := h.2.2.2.2.2
    omega
  | g + 1, fa, w, p, c, a, b, k, hg, h, hN, hb, hb1 => by
    have k10 := h.k10
    have c20 := h.2.2.2.2.2
    have r := h.1.1 rfl
    have hp : 0 ≤ p := r.2.2.1
    have wr := tkW_rg t n most p
    have iw := o_isWord (d := d + 1) r.1 (k := 12) (by omega)
    by_cases c13 : tkW t n most p = 13
    · have y : isW t n most p 12 := by unfold isW; omega
      have ti := tk_in (t := t) (n := n) (most := most) (p := p) (by have := wr.2 (by omega); omega)
      obtain ⟨w1, a1, a2, a3⟩ := o_nextM (d := d + 2) h (by have := wr.2 (by omega); omega)
      obtain ⟨w2, b1, b2, b3, b4⟩ := H w1 _ c k a2 (by omega)
      have m2 : Mf w w2 (smP m) := (a3.trans b3).mono (fun r j z => by omega)
      have e15 : ∀ x, gv w1 (m + 15) x = gv w (m + 15) x := fun x => a3.gvE (by omega)
      have k1 := a2.k10
      have k2 : kd w2 m = 10 := by rw [m2.kdE]; exact k10
      by_cases z : (sa (tkT t n most p) c).1.1 = 0
      · have ok := hs (tkT t n most p) c (by omega) (by omega) (by omega) z
        obtain ⟨k', s1, s2, s3, s4, s5⟩ := b4 z
        obtain ⟨w3, e1, e2, e3, e4⟩ := o_node (d := d + 3) s1 (by omega) 2 a (gv w2 m 38) 0
        have m3 : Mf w w3 (smP m) := m2.tr e4
        have N3 : Nd (gv w3 (m + 15)) A.1 (k' + 1) (k' : Int) (fun B r => fa B r && (sa (tkT t n most p) c).2.2 B r) := by
          have lo : ∀ x, x < 4 * (k' : Int) → gv w3 (m + 15) x = gv w2 (m + 15) x := fun x hx => by rw [e3 x]; exact nodX_lo hx
          unfold Nd
          refine ⟨by omega, Or.inr (Or.inl ⟨by rw [e3]; exact nodX_0, fa, (sa (tkT t n most p) c).2.2, ?_, ?_, fun _ _ _ _ => rfl⟩)⟩
          · rw [e3, nodX_1]
            exact hN.to s2 (fun x x0 x1 => by rw [lo x (by omega), s4 x x0 x1, e15])
          · rw [e3, nodX_2]
            exact s5.to (Nat.le_refl _) (fun x x0 x1 => lo x x1)
        obtain ⟨w', x, g1, g2, g3⟩ := l_mAnd H hs g (fun B r => fa B r && (sa (tkT t n most p) c).2.2 B r) w3 (sa (tkT t n most p) c).1.2.2 (sa (tkT t n most p) c).2.1 k' b (k' + 1) (by omega) e2 N3 (by omega) hb1
        have cd : ∀ wt fo, cdF t n most sa (g + 1) wt fo fa p c = cdF t n most sa g wt fo (fun B r => fa B r && (sa (tkT t n most p) c).2.2 B r) (sa (tkT t n most p) c).1.2.2 (sa (tkT t n most p) c).2.1 := fun wt fo => by
          rw [cdF, if_pos c13, if_pos z]
        refine ⟨w', x, Rn.cut ?_ g1, m3.tr g2, ?_⟩
        · rw [eX12_readAnd_14, if_pos k10, iw]
          simp only [bI, ite10]
          rw [if_pos y, if_pos k10, a1]
          simp only [bN]
          rw [if_pos k1, b1]
          simp only []
          rw [okR1 z, if_neg (by simp), if_pos k2, if_pos k2, e1]
        · rcases g3 with ⟨S, u1, u2⟩ | ⟨u0, g', fa', p', c', k'', u1, u2, u3, u4, u5, u6, u7, u8, u9, u10⟩
          · exact Or.inl ⟨S, u1, fun wt fo => by rw [cd]; exact u2 wt fo⟩
          · refine Or.inr ⟨u0, g', fa', p', c', k'', by omega, u2, by omega, u4, by omega, u6, fun x x0 x1 => ?_, u8, u9, fun wt fo => by rw [cd]; exact u10 wt fo⟩
            rw [u7 x x0 (by omega), e3 x, nodX_lo (by omega), s4 x x0 x1, e15]
      · refine ⟨w2, 0, Rn.ret ?_, m2, Or.inl ⟨_, ⟨rfl, z, b2⟩, fun wt fo => ?_⟩⟩
        · rw [eX12_readAnd_14, if_pos k10, iw]
          simp only [bI, ite10]
          rw [if_pos y, if_pos k10, a1]
          simp only [bN]
          rw [if_pos k1, b1]
          simp only []
          rw [okR0 z, if_pos (by simp)]
        · rw [cdF, if_pos c13, if_neg z]
    · have y : ¬ isW t n most p 12 := by unfold isW; omega
      have m1 := Mf.svI w m 38 a
      have N1 : NmM w m A := h.2.1
      refine ⟨sv w m 38 a, 1, Rn.ret ?_, m1.mono (fun r j z => by omega), Or.inr ⟨rfl, g + 1, fa, p, c, k, Nat.le_refl _, hg, Int.le_refl _, h.mf m1 (fun j z => by omega) (fun j => by omega) (fun j => by omega) (fun j => by omega), Nat.le_refl _, hb, fun x x0 x1 => m1.gvE (by omega), ?_, c13, fun _ _ => rfl⟩⟩
      · rw [eX12_readAnd_14, if_pos k10, iw]
        simp only [bI, ite10]
        rw [if_neg y, if_pos k10, wl_eq]
      · rw [gvSS]
        exact hN.to (Nat.le_refl _) (fun x x0 x1 => m1.gvE (by omega))
/-- readAnd -/
theorem o_readAnd (H : OneM (d + 4) m t n most A wi sa) (hs : ∀ p c, 0 ≤ p → 0 ≤ c → c ≤ 20 → RsOk n p c (sa p c)) {w : sW} {p c b : Int} {k : Nat} (g : Nat) (h : StM w m t n most A p c k wi) (hk : (k : Int) ≤ 2 * c) (hb : (k : Int) - 2 * c - 1 ≤ b) (hb1 : b ≤ -1) (hg : 20 ≤ c + g) : ∃ w' x, Ex pro (d + 5) 267 w [rV m] = some (some (iV x), w') ∧ Mf w w' (smP m) ∧ ((∃ S, MBad w' m t n most x S ∧ (((sa p c).1.1 ≠ 0 ∧ (sa p c).1 = S) ∨ ((sa p c).1.1 = 0 ∧ ∀ wt fo, (cdF t n most sa g wt fo (sa p c).2.2 (sa p c).1.2.2 (sa p c).2.1).1 = S))) ∨ ((sa p c).1.1 = 0 ∧ MAnd w w' m t n most A sa wi k b x g (sa p c).2.2 (sa p c).1.2.2 (sa p c).2.1)) := by
  have k10 := h.k10
  have c20 := h.2.2.2.2.2
  have r := h.1.1 rfl
  have hp : 0 ≤ p := r.2.2.1
  obtain ⟨w1, b1, b2, b3, b4⟩ := H w p c k h hk
  have k1 : kd w1 m = 10 := by rw [b3.kdE]; exact k10
  by_cases z : (sa p c).1.1 = 0
  · have ok := hs p c hp c20.1 c20.2 z
    obtain ⟨k', s1, s2, s3, s4, s5⟩ := b4 z
    obtain ⟨w', x, g1, g2, g3⟩ := l_mAnd (d := d) H hs g (sa p c).2.2 w1 (sa p c).1.2.2 (sa p c).2.1 (gv w1 m 38) b k' (by omega) s1 s5 (by omega) hb1
    refine ⟨w', x, xX12_readAnd (Rn.cut ?_ g1), b3.tr g2, ?_⟩
    · rw [eX12_readAnd_0, if_pos k10, b1]
      simp only [bI]
      rw [okR1 z, if_neg (by simp), if_pos k1]
    · rcases g3 with ⟨S, u1, u2⟩ | ⟨u0, g', fa', p', c', k'', u1, u2, u3, u4, u5, u6, u7, u8, u9, u10⟩
      · exact Or.inl ⟨S, u1, Or.inr ⟨z, u2⟩⟩
      · exact Or.inr ⟨z, u0, g', fa', p', c', k'', u1, u2, u3, u4, by omega, u6, fun x x0 x1 => by rw [u7 x x0 (by omega), s4 x x0 x1], u8, u9, u10⟩
  · refine ⟨w1, 0, xX12_readAnd (Rn.ret ?_), b3, Or.inl ⟨_, ⟨rfl, z, b2⟩, Or.inl ⟨z, rfl⟩⟩⟩
    rw [eX12_readAnd_0, if_pos k10, b1]
    simp only [bI]
    rw [okR0 z, if_pos (by simp)]
theorem l_mOr (H : OneM (d + 4) m t n most A wi sa) (hs : ∀ p c, 0 ≤ p → 0 ≤ c → c ≤ 20 → RsOk n p c (sa p c)) : ∀ (i g : Nat) (wt : Bool) (fo fa : Sb) (w : sW) (p c a b : Int) (k : Nat), g ≤ i → 21 ≤ c + g → StM w m t n most A p c k wi → Nd (gv w (m + 15)) A.1 k a (orF wt fo fa) → tkW t n most p ≠ 13 → (k : Int) ≤ b + 2 * c → b ≤ -1 → ∃ w', Rn (Ex pro (d + 5)) mX12_readOr (14, [some (rV m), some (iV a)], [], w) (some (iV (okR (cdF t n most sa g wt fo fa p c).1.1)), w') ∧ PoM w w' m t n most A (cdF t n most sa g wt fo fa p c) k wi b
  | 0, g, wt, fo, fa, w, p, c, a, b, k, hi, hg, h, hN, h13, hb, hb1 => by
    have := h.2.2.2.2.2
    omega
  | i + 1, 0, wt, fo, fa, w, p, c, a, b, k, hi, hg, h, hN, h13, hb, hb1 => by
    have := h.2.2.2.2.2
    omega
  | i + 1, g + 1, wt, fo, fa, w, p, c, a, b, k, hi, hg, h, hN, h13, hb, hb1 => by
    have k10 := h.k10
    have c20 := h.2.2.2.2.2
    have r := h.1.1 rfl
    have hp : 0 ≤ p := r.2.2.1
    have wr := tkW_rg t n most p
    have iw := o_isWord (d := d + 2) r.1 (k := 11) (by omega)
    by_cases c12 : tkW t n most p = 12
    · have y : isW t n most p 11 := by unfold isW; omega
      have ti := tk_in (t := t) (n := n) (most := most) (p := p) (by have := wr.2 (by omega); omega)
      obtain ⟨w1, a1, a2, a3⟩ := o_nextM (d := d + 3) h (by have := wr.2 (by omega); omega)
      have e15 : ∀ x, gv w1 (m + 15) x = gv w (m + 15) x := fun x => a3.gvE (by omega)
      have k1 := a2.k10
      obtain ⟨w2, x, b1, b2, b3⟩ := o_readAnd (d := d) H hs (b := b - 1) g a2 (by omega) (by omega) (by omega) (by omega)
      have m2 : Mf w w2 (smP m) := (a3.trans b2).mono (fun r j z => by omega)
      have k2 : kd w2 m = 10 := by rw [m2.kdE]; exact k10
      have cdz : ∀ z : (sa (tkT t n most p) c).1.1 = 0, cdF t n most sa (g + 1) wt fo fa p c = cdF t n most sa g true (orF wt fo fa) (sa (tkT t n most p) c).2.2 (sa (tkT t n most p) c).1.2.2 (sa (tkT t n most p) c).2.1 := fun z => by
        rw [cdF, if_neg h13, if_pos c12, if_pos z]
      have cdn : ∀ z : (sa (tkT t n most p) c).1.1 ≠ 0, cdF t n most sa (g + 1) wt fo fa p c = sa (tkT t n most p) c := fun z => by
        rw [cdF, if_neg h13, if_pos c12, if_neg z]
      rcases b3 with ⟨S, ⟨u0, u1, u2⟩, u3⟩ | ⟨z, u0, g', fa', p', c', k', u1, u2, u3, u4, u5, u6, u7, u8, u9, u10⟩
      · have eS : (cdF t n most sa (g + 1) wt fo fa p c).1 = S := by
          rcases u3 with ⟨v1, v2⟩ | ⟨v1, v2⟩
          · rw [cdn v1]; exact v2
          · rw [cdz v1]; exact v2 true (orF wt fo fa)
        unfold PoM
        rw [eS]
        refine ⟨w2, Rn.ret ?_, u2, m2, fun z => absurd z u1⟩
        rw [eX12_readOr_14, if_pos k10, iw]
        simp only [bI, ite10]
        rw [if_pos y, if_pos k10, a1]
        simp only [bN]
        rw [if_pos k1, b1]
        simp only []
        rw [u0, if_pos (by simp), okR0 u1]
      · obtain ⟨w3, e1, e2, e3, e4⟩ := o_node (d := d + 4) u4 (by have := u4.2.2.2.2.2; omega) 3 a (gv w2 m 38) 0
        have m3 : Mf w w3 (smP m) := m2.tr e4
        have lo : ∀ x, x < 4 * (k' : Int) → gv w3 (m + 15) x = gv w2 (m + 15) x := fun x hx => by rw [e3 x]; exact nodX_lo hx
        have N3 : Nd (gv w3 (m + 15)) A.1 (k' + 1) (k' : Int) (orF true (orF wt fo fa) fa') := by
          unfold Nd
          refine ⟨by omega, Or.inr (Or.inr (Or.inl ⟨by rw [e3]; exact nodX_0, orF wt fo fa, fa', ?_, ?_, fun _ _ _ _ => rfl⟩))⟩
          · rw [e3, nodX_1]
            exact hN.to u5 (fun x x0 x1 => by rw [lo x (by omega), u7 x x0 x1, e15])
          · rw [e3, nodX_2]
            exact u8.to (Nat.le_refl _) (fun x x0 x1 => lo x x1)
        obtain ⟨w', g1, g2, g3, g4⟩ := l_mOr H hs i g' true (orF wt fo fa) fa' w3 p' c' k' b (k' + 1) (by omega) u2 e2 N3 u9 (by omega) hb1
        rw [cdz z, u10 true (orF wt fo fa)]
        refine ⟨w', Rn.cut ?_ g1, g2, m3.tr g3, fun v => ?_⟩
        · rw [eX12_readOr_14, if_pos k10, iw]
          simp only [bI, ite10]
          rw [if_pos y, if_pos k10, a1]
          simp only [bN]
          rw [if_pos k1, b1]
          simp only []
          rw [u0, if_neg (by simp), if_pos k2, if_pos k2, e1]
        · obtain ⟨k'', v1, v2, v3, v4, v5⟩ := g4 v
          exact ⟨k'', v1, by omega, v3, fun x x0 x1 => by rw [v4 x x0 (by omega), lo x (by omega), u7 x x0 x1, e15], v5⟩
    · have y : ¬ isW t n most p 11 := by unfold isW; omega
      have m1 := Mf.svI w m 38 a
      have cd : cdF t n most sa (g + 1) wt fo fa p c = ((0, 0, p), c, orF wt fo fa) := by
        rw [cdF, if_neg h13, if_neg c12]
      rw [cd]
      have S1 := h.mf m1 (fun j z => by omega) (fun j => by omega) (fun j => by omega) (fun j => by omega)
      refine ⟨sv w m 38 a, Rn.ret ?_, S1.1, m1.mono (fun r j z => by omega), fun _ => ⟨k, S1, Nat.le_refl _, hb, fun x x0 x1 => m1.gvE (by omega), ?_⟩⟩
      · rw [eX12_readOr_14, if_pos k10, iw]
        simp only [bI, ite10]
        rw [if_neg y, if_pos k10, wl_eq]
        rfl
      · rw [gvSS]
        exact hN.to (Nat.le_refl _) (fun x x0 x1 => m1.gvE (by omega))
/-- readOr -/
theorem o_readOr (H : OneM (d + 4) m t n most A wi sa) (hs : ∀ p c, 0 ≤ p → 0 ≤ c → c ≤ 20 → RsOk n p c (sa p c)) : CndM (d + 6) m t n most A wi sa := fun w p c k h hk => by
  have k10 := h.k10
  have c20 := h.2.2.2.2.2
  obtain ⟨w1, x, b1, b2, b3⟩ := o_readAnd (d := d) H hs (b := k - 2 * c - 1) 21 h hk (by omega) (by omega) (by omega)
  have k1 : kd w1 m = 10 := by rw [b2.kdE]; exact k10
  rcases b3 with ⟨S, ⟨u0, u1, u2⟩, u3⟩ | ⟨z, u0, g', fa', p', c', k', u1, u2, u3, u4, u5, u6, u7, u8, u9, u10⟩
  · have eS : (cdT t n most sa p c).1 = S := by
      unfold cdT
      rcases u3 with ⟨v1, v2⟩ | ⟨v1, v2⟩
      · rw [if_neg v1]; exact v2
      · rw [if_pos v1]; exact v2 false fN
    unfold PoM
    rw [eS]
    refine ⟨w1, xX12_readOr (Rn.ret ?_), u2, b2, fun z => absurd z u1⟩
    rw [eX12_readOr_0, if_pos k10, b1]
    simp only [bI]
    rw [u0, if_pos (by simp), okR0 u1]
  · have cd : cdT t n most sa p c = cdF t n most sa g' false fN fa' p' c' := by
      unfold cdT
      rw [if_pos z]
      exact u10 false fN
    rw [cd]
    obtain ⟨w', g1, g2, g3, g4⟩ := l_mOr (d := d) H hs g' g' false fN fa' w1 p' c' (gv w1 m 38) (k - 2 * c - 1) k' (Nat.le_refl _) u2 u4 (u8.fe (fun _ _ _ _ => rfl)) u9 u6 (by omega)
    refine ⟨w', xX12_readOr (Rn.cut ?_ g1), g2, b2.tr g3, fun v => ?_⟩
    · rw [eX12_readOr_0, if_pos k10, b1]
      simp only [bI]
      rw [u0, if_neg (by simp), if_pos k1]
    · obtain ⟨k'', v1, v2, v3, v4, v5⟩ := g4 v
      exact ⟨k'', v1, by omega, v3, fun x x0 x1 => by rw [v4 x x0 (by omega), u7 x x0 x1], v5⟩
end MC
