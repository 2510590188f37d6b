/-! ===== one of a sentence: the reference ===== -/
section MO
variable {d : Nat} {m : Int} {t : Int → Int} {n most wi : Int} {A : Rm} {sa : Int → Int → Rs}
theorem RsM.z {w : sW} {S : Ts} (h : RsM w m t n most S) (z : S.1 = 0) : RsM w m t n most (0, 0, S.2.2) := ⟨fun _ => ⟨(h.1 z).1, rfl, (h.1 z).2.2⟩, fun y => absurd rfl y⟩
/-- a plain node, that is the top then -/
theorem o_plNode {w : sW} {p c W s v a b : Int} {k : Nat} (h : StM w m t n most A p c k wi) (hk : k < 60) (hW : 15 ≤ W ∧ W ≤ 23) (h1 : W = 17 ∨ W = 18 → a = v ∧ 0 ≤ v ∧ v < A.1) (h2 : ¬ (W = 17 ∨ W = 18) → b = v) : ∃ w1, Ex pro (d + 1) 265 w [rV m, iV (49 + W), iV a, iV b, iV s] = some (some (iV (k : Int)), w1) ∧ kd w1 m = 10 ∧ StM (sv w1 m 38 k) m t n most A p c (k + 1) wi ∧ Mf w (sv w1 m 38 k) (smP m) ∧ (∀ x, x < 4 * (k : Int) → gv (sv w1 m 38 k) (m + 15) x = gv w (m + 15) x) ∧ Nd (gv (sv w1 m 38 k) (m + 15)) A.1 (k + 1) (gv (sv w1 m 38 k) m 38) (plF (W, s, v)) := by
  obtain ⟨w1, a1, a2, a3, a4⟩ := o_node (d := d) h hk (49 + W) a b s
  have m1 := Mf.svI w1 m 38 (k : Int)
  have e : ∀ x, gv (sv w1 m 38 k) (m + 15) x = nodX (gv w (m + 15)) k (49 + W) a b s x := fun x => by rw [m1.gvE (by omega)]; exact a3 x
  refine ⟨w1, a1, a2.k10, a2.mf m1 (fun j z => by omega) (fun j => by omega) (fun j => by omega) (fun j => by omega), (a4.trans m1).mono (fun r j z => by omega), fun x hx => by rw [e x]; exact nodX_lo hx, ?_⟩
  rw [gvSS]
  unfold Nd
  rw [e, e, e, e, nodX_0, nodX_1, nodX_2, nodX_3]
  refine ⟨by omega, Or.inr (Or.inr (Or.inr ⟨by omega, fun z => ?_, fun B r eB hr => ?_⟩))⟩
  · have := h1 (by omega)
    omega
  · rw [show 49 + W - 49 = W by omega]
    by_cases c : W = 17 ∨ W = 18
    · rw [if_pos (by omega), (h1 c).1]
    · rw [if_neg (by omega), h2 c]
/-- what a plain one leaves -/
def PlM (w w' : sW) (m : Int) (t : Int → Int) (n most : Int) (A : Rm) (S : Ts) (x : Sp) (c : Int) (k : Nat) (wi : Int) : Prop := RsM w' m t n most S ∧ Mf w w' (smP m) ∧ (S.1 = 0 → StM w' m t n most A S.2.2 c (k + 1) wi ∧ (∀ x, x < 4 * (k : Int) → gv w' (m + 15) x = gv w (m + 15) x) ∧ Nd (gv w' (m + 15)) A.1 (k + 1) (gv w' m 38) (plF x))
theorem o_readOf {w : sW} {p c i : Int} {k : Nat} (h : StM w m t n most A p c k wi) (hk : k < 60) (hi : i = 16 ∨ i = 17) : ∃ w', Ex pro (d + 5) 271 w [rV m, iV i] = some (some (iV (okR (saP t n most A (i + 1) p).1.1)), w') ∧ PlM w w' m t n most A (saP t n most A (i + 1) p).1 (saP t n most A (i + 1) p).2 c k wi := by
  have k10 := h.k10
  obtain ⟨h1, h2, h3, h4, h5, h6⟩ := h
  have A0 := h2.2.2.1
  obtain ⟨w1, b1, b2, b3, b4⟩ := o_stR (d := d) h1 rfl h2
  have k1 : kd w1 m = 10 := by rw [b4.kdE]; exact k10
  have sp : saP t n most A (i + 1) p = ((stR t n most A (0, 0, p) (-1)).1, (i + 1, 0, (stR t n most A (0, 0, p) (-1)).2)) := by
    unfold saP
    rw [if_neg (by omega), if_pos (by omega)]
  rw [sp]
  show ∃ w', Ex pro (d + 5) 271 w [rV m, iV i] = some (some (iV (okR (stR t n most A (0, 0, p) (-1)).1.1)), w') ∧ PlM w w' m t n most A (stR t n most A (0, 0, p) (-1)).1 (i + 1, 0, (stR t n most A (0, 0, p) (-1)).2) c k wi
  by_cases z : (stR t n most A (0, 0, p) (-1)).1.1 = 0
  · have y := (stR_y A0.1 z).2.1
    have S1 : StM w1 m t n most A (stR t n most A (0, 0, p) (-1)).1.2.2 c k wi := ⟨b2.z z, h2.mf b4 (fun j z => by omega) (by omega) (fun j => by omega), by rw [b4.gvE (by omega)]; exact h3, by rw [b4.gvE (by omega)]; exact h4, by rw [b4.gvE (by omega)]; exact h5, h6⟩
    obtain ⟨w2, e1, e2, e3, e4, e5, e6⟩ := o_plNode (d := d + 3) (W := i + 1) (s := 0) (v := (stR t n most A (0, 0, p) (-1)).2) (a := (stR t n most A (0, 0, p) (-1)).2) (b := 0) S1 hk (by omega) (fun _ => ⟨rfl, y.1, y.2⟩) (fun z => by omega)
    have m2 : Mf w (sv w2 m 38 k) (smP m) := (b4.trans e4).mono (fun r j z => by omega)
    refine ⟨sv w2 m 38 k, xX12_readOf (Rn.ret ?_), ⟨fun z' => ?_, fun z' => absurd z z'⟩, m2, fun _ => ⟨e3, fun x hx => by rw [e5 x hx, b4.gvE (by omega)], e6⟩⟩
    · rw [eX12_readOf_0, if_pos k10, b1]
      simp only [bI]
      rw [okR1 z, if_neg (by simp), if_pos k1, if_pos k1, b3 z, w32_eq (x := 50 + i) (by omega) (by omega), show 50 + i = 49 + (i + 1) by omega, e1]
      simp only []
      rw [if_pos e2, wl_eq]
    · have := e3.1.1 rfl
      exact ⟨this.1, (b2.1 z).2.1, this.2.2⟩
  · refine ⟨w1, xX12_readOf (Rn.ret ?_), b2, b4.mono (fun r j z => by omega), fun z' => absurd z' z⟩
    rw [eX12_readOf_0, if_pos k10, b1]
    simp only [bI]
    rw [okR0 z, if_pos (by simp)]
theorem o_readCmp {w : sW} {p c i : Int} {k : Nat} (h : StM w m t n most A p c k wi) (hk : k < 60) (hi : 18 ≤ i ∧ i ≤ 22) : ∃ w', Ex pro (d + 5) 272 w [rV m, iV i] = some (some (iV (okR (saP t n most A (i + 1) p).1.1)), w') ∧ PlM w w' m t n most A (saP t n most A (i + 1) p).1 (saP t n most A (i + 1) p).2 c k wi := by
  have k10 := h.k10
  have r := h.1.1 rfl
  have hp : 0 ≤ p := r.2.2.1
  have q0 := o_isSign (d := d + 3) r.1 60
  have q1 := o_isSign (d := d + 3) r.1 61
  have q2 := o_isSign (d := d + 3) r.1 62
  have sp : saP t n most A (i + 1) p = ((stN t n most (stC t n most (0, 0, p)).1 0 999).1, (i + 1, (stC t n most (0, 0, p)).2, (stN t n most (stC t n most (0, 0, p)).1 0 999).2)) := by
    unfold saP
    rw [if_neg (by omega), if_neg (by omega)]
  rw [sp]
  show ∃ w', Ex pro (d + 5) 272 w [rV m, iV i] = some (some (iV (okR (stN t n most (stC t n most (0, 0, p)).1 0 999).1.1)), w') ∧ PlM w w' m t n most A (stN t n most (stC t n most (0, 0, p)).1 0 999).1 (i + 1, (stC t n most (0, 0, p)).2, (stN t n most (stC t n most (0, 0, p)).1 0 999).2) c k wi
  by_cases y : atC t n most p
  · have c1 : stC t n most (0, 0, p) = ((0, 0, tkT t n most p), tkS t n most p) := by
      unfold stC
      rw [if_pos rfl, if_pos y]
    rw [c1]
    show ∃ w', Ex pro (d + 5) 272 w [rV m, iV i] = some (some (iV (okR (stN t n most (0, 0, tkT t n most p) 0 999).1.1)), w') ∧ PlM w w' m t n most A (stN t n most (0, 0, tkT t n most p) 0 999).1 (i + 1, tkS t n most p, (stN t n most (0, 0, tkT t n most p) 0 999).2) c k wi
    obtain ⟨w1, a1, a2, a3⟩ := o_nextM (d := d + 2) h (by have := y.1; omega)
    have k1 := a2.k10
    have s9 := r.1.2.2.2.2.2.2 y.1
    obtain ⟨h1, h2, h3, h4, h5, h6⟩ := a2
    obtain ⟨w2, b1, b2, b3, b4⟩ := o_stN (d := d + 1) h1 rfl 0 999
    have k2 : kd w2 m = 10 := by rw [b4.kdE]; exact k1
    have m2 : Mf w w2 (smP m) := (a3.trans b4).mono (fun r j z => by omega)
    have g33 : ∀ res, Rn (Ex pro (d + 4)) mX12_readCompare (33, [some (rV m), some (iV i), none], [], w) res → Ex pro (d + 5) 272 w [rV m, iV i] = some res := fun res g => by
      refine xX12_readCompare (Rn.cut ?_ g)
      rw [eX12_readCompare_0, if_pos k10, q0]
      simp only [bI, ite10]
      by_cases y0 : atS t n most p 60
      · rw [if_pos y0]
      · rw [if_neg y0, if_pos k10, q1]
        simp only [ite10]
        by_cases y1 : atS t n most p 61
        · rw [if_pos y1]
        · rw [if_neg y1, if_pos k10, q2]
          simp only [ite10]
          rw [if_pos ⟨y.1, by
            have : ¬ tkS t n most p = 60 := fun z => y0 ⟨y.1, z⟩
            have : ¬ tkS t n most p = 61 := fun z => y1 ⟨y.1, z⟩
            omega⟩]
    by_cases z : (stN t n most (0, 0, tkT t n most p) 0 999).1.1 = 0
    · have S2 : StM w2 m t n most A (stN t n most (0, 0, tkT t n most p) 0 999).1.2.2 c k wi := ⟨b2.z z, h2.mf b4 (fun j z => by omega) (by omega) (fun j => by omega), by rw [b4.gvE (by omega)]; exact h3, by rw [b4.gvE (by omega)]; exact h4, by rw [b4.gvE (by omega)]; exact h5, h6⟩
      obtain ⟨w3, e1, e2, e3, e4, e5, e6⟩ := o_plNode (d := d + 3) (W := i + 1) (s := tkS t n most p) (v := (stN t n most (0, 0, tkT t n most p) 0 999).2) (a := 0) (b := (stN t n most (0, 0, tkT t n most p) 0 999).2) S2 hk (by omega) (fun z => by omega) (fun _ => rfl)
      refine ⟨sv w3 m 38 k, g33 _ (Rn.ret ?_), ⟨fun z' => ?_, fun z' => absurd z z'⟩, m2.tr e4, fun _ => ⟨e3, fun x hx => by rw [e5 x hx, b4.gvE (by omega), a3.gvE (by omega)], e6⟩⟩
      · rw [eX12_readCompare_33, if_pos k10, if_pos k10, a1]
        simp only [bN]
        rw [if_pos k1, b1]
        simp only [bI]
        rw [okR1 z, if_neg (by simp), if_pos k2, if_pos k2, b3 z, s9, w32_eq (x := 50 + i) (by omega) (by omega), show 50 + i = 49 + (i + 1) by omega, e1]
        simp only []
        rw [if_pos e2, wl_eq]
      · have := e3.1.1 rfl
        exact ⟨this.1, (b2.1 z).2.1, this.2.2⟩
    · refine ⟨w2, g33 _ (Rn.ret ?_), b2, m2, fun z' => absurd z' z⟩
      rw [eX12_readCompare_33, if_pos k10, if_pos k10, a1]
      simp only [bN]
      rw [if_pos k1, b1]
      simp only [bI]
      rw [okR0 z, if_pos (by simp)]
  · have c1 : stC t n most (0, 0, p) = ((1, tkP t n most p, p), 0) := by
      unfold stC
      rw [if_pos rfl, if_neg y]
    have c2 : stN t n most (1, tkP t n most p, p) 0 999 = ((1, tkP t n most p, p), -1) := stN_f (by show (1 : Int) ≠ 0; omega)
    rw [c1]
    show ∃ w', Ex pro (d + 5) 272 w [rV m, iV i] = some (some (iV (okR (stN t n most (1, tkP t n most p, p) 0 999).1.1)), w') ∧ PlM w w' m t n most A (stN t n most (1, tkP t n most p, p) 0 999).1 (i + 1, 0, (stN t n most (1, tkP t n most p, p) 0 999).2) c k wi
    rw [c2]
    obtain ⟨w1, a1, a2, a3, a4⟩ := o_bad (d := d + 3) r.1 1
    rw [show (if tkK t n most p = 1 then (1 : Int) else 1) = 1 by split <;> rfl] at a3
    refine ⟨w1, xX12_readCompare (Rn.ret ?_), ⟨fun z => absurd (show (1 : Int) = 0 from z) (by omega), fun _ => a3⟩, a4.mono (fun r j z => by omega), fun z => absurd (show (1 : Int) = 0 from z) (by omega)⟩
    have y0 : ¬ atS t n most p 60 := fun z => y ⟨z.1, by omega⟩
    have y1 : ¬ atS t n most p 61 := fun z => y ⟨z.1, by omega⟩
    have y2 : ¬ atS t n most p 62 := fun z => y ⟨z.1, by omega⟩
    rw [eX12_readCompare_0, if_pos k10, q0]
    simp only [bI, ite10]
    rw [if_neg y0, if_pos k10, q1]
    simp only [ite10]
    rw [if_neg y1, if_pos k10, q2]
    simp only [ite10]
    rw [if_neg y2, if_pos k10, a1]
    simp only []
    rw [if_pos (Or.inl trivial)]
    rfl
/-- readNot -/
theorem o_readNot (H : OneM d m t n most A wi sa) {w : sW} {p c : Int} {k : Nat} (hd : 1 ≤ d) (h : StM w m t n most A p c k wi) (hk : (k : Int) ≤ 2 * c) : ∃ w', Ex pro (d + 1) 269 w [rV m] = some (some (iV (okR (sa p c).1.1)), w') ∧ PoM w w' m t n most A ((sa p c).1, (sa p c).2.1, fun B r => !(sa p c).2.2 B r) k wi (k - 2 * c) := by
  obtain ⟨e, rfl⟩ : ∃ e, d = e + 1 := ⟨d - 1, by omega⟩
  have k10 := h.k10
  obtain ⟨w1, b1, b2, b3, b4⟩ := H w p c k h hk
  have k1 : kd w1 m = 10 := by rw [b3.kdE]; exact k10
  by_cases z : (sa p c).1.1 = 0
  · obtain ⟨k', s1, s2, s3, s4, s5⟩ := b4 z
    obtain ⟨w2, e1, e2, e3, e4⟩ := o_node (d := e) s1 (by have := s1.2.2.2.2.2; omega) 1 (gv w1 m 38) 0 0
    have m1 := Mf.svI w2 m 38 (k' : Int)
    have S2 := e2.mf m1 (fun j z => by omega) (fun j => by omega) (fun j => by omega) (fun j => by omega)
    have x15 : ∀ x, gv (sv w2 m 38 k') (m + 15) x = gv w2 (m + 15) x := fun x => m1.gvE (by omega)
    refine ⟨sv w2 m 38 k', xX12_readNot (Rn.ret ?_), ⟨fun z' => ?_, fun z' => absurd z z'⟩, b3.tr (e4.tr (m1.mono (fun r j z => by omega))), fun _ => ⟨k' + 1, S2, by omega, ?_, fun x x0 x1 => ?_, ?_⟩⟩
    · rw [eX12_readNot_0, if_pos k10, b1]
      simp only [bI]
      rw [okR1 z, if_neg (by simp), if_pos k1, if_pos k1, e1]
      simp only []
      rw [if_pos e2.k10, wl_eq]
    · have := S2.1.1 rfl
      exact ⟨this.1, (b2.1 z).2.1, this.2.2⟩
    · show ((k' + 1 : Nat) : Int) ≤ k - 2 * c + 2 * (sa p c).2.1
      omega
    · rw [x15, e3 x, nodX_lo (by omega), s4 x x0 x1]
    · rw [gvSS]
      unfold Nd
      refine ⟨by omega, Or.inl ⟨by rw [x15, e3]; exact nodX_0, (sa p c).2.2, ?_, fun _ _ _ _ => rfl⟩⟩
      rw [x15, e3, nodX_1]
      exact s5.to (Nat.le_refl _) (fun x x0 x1 => by rw [x15, e3 x]; exact nodX_lo x1)
  · refine ⟨w1, xX12_readNot (Rn.ret ?_), b2, b3, fun z' => absurd z' z⟩
    rw [eX12_readNot_0, if_pos k10, b1]
    simp only [bI]
    rw [okR0 z, if_pos (by simp)]
/-- readBracket -/
theorem o_readBr (H : CndM (d + 2) m t n most A wi sa) {w : sW} {p c : Int} {k : Nat} (h : StM w m t n most A p c k wi) (hk : (k : Int) ≤ 2 * c) : ∃ w', Ex pro (d + 3) 270 w [rV m] = some (some (iV (okR (stS t n most (cdT t n most sa p c).1 41).1)), w') ∧ PoM w w' m t n most A (stS t n most (cdT t n most sa p c).1 41, (cdT t n most sa p c).2.1, (cdT t n most sa p c).2.2) k wi (k - 2 * c - 1) := by
  have k10 := h.k10
  obtain ⟨w1, b1, b2, b3, b4⟩ := H w p c k h hk
  have k1 : kd w1 m = 10 := by rw [b3.kdE]; exact k10
  generalize cdT t n most sa p c = R at b1 b2 b4 ⊢
  by_cases z : R.1.1 = 0
  · obtain ⟨k', s1, s2, s3, s4, s5⟩ := b4 z
    have r := s1.1.1 rfl
    have iz := o_isSign (d := d + 1) r.1 41
    have z2 := (b2.1 z).2.1
    unfold PoM stS
    rw [if_pos z]
    by_cases y : atS t n most R.1.2.2 41
    · rw [if_pos y]
      obtain ⟨w2, e1, e2, e3⟩ := o_nextM (d := d) s1 (by have := y.1; omega)
      refine ⟨w2, xX12_readBracket (Rn.ret ?_), ⟨fun _ => ?_, fun z' => absurd rfl z'⟩, b3.tr (e3.mono (fun r j z => by omega)), fun _ => ⟨k', e2, s2, s3, fun x x0 x1 => by rw [e3.gvE (by omega)]; exact s4 x x0 x1, ?_⟩⟩
      · rw [eX12_readBracket_0, if_pos k10, b1]
        simp only [bI]
        rw [okR1 z, if_neg (by simp), if_pos k1, iz]
        simp only [ite10]
        rw [if_pos y, if_pos k1, e1]
        rfl
      · have := e2.1.1 rfl
        exact ⟨this.1, z2, this.2.2⟩
      · rw [show gv w2 m 38 = gv w1 m 38 from e3.gvE (by omega)]
        exact s5.to (Nat.le_refl _) (fun x x0 x1 => e3.gvE (by omega))
    · rw [if_neg y]
      obtain ⟨w2, e1, e2, e3, e4⟩ := o_bad (d := d + 1) r.1 1
      rw [show (if tkK t n most R.1.2.2 = 1 then (1 : Int) else 1) = 1 by split <;> rfl] at e3
      refine ⟨w2, xX12_readBracket (Rn.ret ?_), ⟨fun z' => absurd (show (1 : Int) = 0 from z') (by omega), fun _ => e3⟩, b3.tr (e4.mono (fun r j z => by omega)), fun z' => absurd (show (1 : Int) = 0 from z') (by omega)⟩
      rw [eX12_readBracket_0, if_pos k10, b1]
      simp only [bI]
      rw [okR1 z, if_neg (by simp), if_pos k1, iz]
      simp only [ite10]
      rw [if_neg y, if_pos k1, e1]
      simp only []
      rw [if_pos (Or.inl trivial)]
      rfl
  · rw [stS_f z]
    refine ⟨w1, xX12_readBracket (Rn.ret ?_), b2, b3, fun z' => absurd z' z⟩
    rw [eX12_readBracket_0, if_pos k10, b1]
    simp only [bI]
    rw [okR0 z, if_pos (by simp)]
end MO
