/-! ===== snapshots of the reference ===== -/
/-- nothing but the cells P changed, no new object -/
def Mf (w w' : sW) (P : Int → Int → Prop) : Prop := w'.1 = w.1 ∧ w'.2.2 = w.2.2 ∧ ∀ r j, ¬ P r j → gv w' r j = gv w r j
theorem Mf.kdE {w w' : sW} {P : Int → Int → Prop} (h : Mf w w' P) (r : Int) : kd w' r = kd w r := by unfold kd; rw [h.1]
theorem Mf.lnE {w w' : sW} {P : Int → Int → Prop} (h : Mf w w' P) (r : Int) : ln w' r = ln w r := by unfold ln; rw [h.1]
theorem Mf.gvE {w w' : sW} {P : Int → Int → Prop} (h : Mf w w' P) {r j : Int} (hp : ¬ P r j) : gv w' r j = gv w r j := h.2.2 r j hp
theorem Mf.refl (w : sW) (P : Int → Int → Prop) : Mf w w P := ⟨rfl, rfl, fun _ _ _ => rfl⟩
theorem Mf.trans {w w' w'' : sW} {P Q : Int → Int → Prop} (h : Mf w w' P) (g : Mf w' w'' Q) : Mf w w'' (fun r j => P r j ∨ Q r j) := ⟨g.1.trans h.1, g.2.1.trans h.2.1, fun r j hp => (g.2.2 r j (fun z => hp (Or.inr z))).trans (h.2.2 r j (fun z => hp (Or.inl z)))⟩
theorem Mf.mono {w w' : sW} {P Q : Int → Int → Prop} (h : Mf w w' P) (hp : ∀ r j, P r j → Q r j) : Mf w w' Q := ⟨h.1, h.2.1, fun r j hq => h.2.2 r j (fun z => hq (hp r j z))⟩
theorem Mf.tr {w w' w'' : sW} {P : Int → Int → Prop} (h : Mf w w' P) (g : Mf w' w'' P) : Mf w w'' P := (h.trans g).mono (fun _ _ z => z.elim id id)
theorem Mf.svI (w : sW) (a k v : Int) : Mf w (sv w a k v) (fun r j => r = a ∧ j = k) := ⟨rfl, rfl, fun r j hp => by rw [gvS, if_neg hp]⟩
theorem Mf.saI (w : sW) (N : Int) (X : Int → Int) : Mf w (sa w N X) (fun r _ => r = N) := ⟨rfl, rfl, fun r j hp => by rw [gvA, if_neg hp]⟩
theorem Qf.mf {w w' : sW} {m : Int} (h : Qf w w' m) : Mf w w' (fun r j => r = m ∧ (j = 0 ∨ j = 26)) := ⟨h.1, h.2.1, fun r j hp => h.2.2 r j (by omega)⟩
abbrev ARm (w : sW) (m f k kind len : Int) : Prop := gv w m f = m + k ∧ kd w (m + k) = kind ∧ ln w (m + k) = len
/-- the reference's cells -/
def MSh (w : sW) (m : Int) : Prop := (kd w m = 10 ∧ 32 ≤ m) ∧ ARm w m 1 1 20 940 ∧ ARm w m 14 2 20 6062 ∧ ARm w m 15 3 20 2607 ∧ ARm w m 16 4 20 12124 ∧ ARm w m 17 5 20 25704 ∧ ARm w m 18 6 20 3213 ∧ ARm w m 19 7 20 3213 ∧ ARm w m 20 8 22 4 ∧ ARm w m 21 9 22 4 ∧ ARm w m 22 10 22 8 ∧ ARm w m 23 11 23 2 ∧ ARm w m 27 12 20 600 ∧ ARm w m 30 13 20 160 ∧ ARm w m 31 14 20 4 ∧ ARm w m 34 15 20 240
abbrev ptF (j : Int) : Prop := j = 1 ∨ (14 ≤ j ∧ j ≤ 23) ∨ j = 27 ∨ j = 30 ∨ j = 31 ∨ j = 34
theorem MSh.mf {w w' : sW} {m : Int} {P : Int → Int → Prop} (h : MSh w m) (g : Mf w w' P) (hp : ∀ j, ptF j → ¬ P m j) : MSh w' m := by
  unfold MSh ARm at *
  simp only [g.kdE, g.lnE]
  rw [g.gvE (hp 1 (by omega)), g.gvE (hp 14 (by omega)), g.gvE (hp 15 (by omega)), g.gvE (hp 16 (by omega)), g.gvE (hp 17 (by omega)), g.gvE (hp 18 (by omega)), g.gvE (hp 19 (by omega)), g.gvE (hp 20 (by omega)), g.gvE (hp 21 (by omega)), g.gvE (hp 22 (by omega)), g.gvE (hp 23 (by omega)), g.gvE (hp 27 (by omega)), g.gvE (hp 30 (by omega)), g.gvE (hp 31 (by omega)), g.gvE (hp 34 (by omega))]
  exact h
theorem MSh.nw {w : sW} {m : Int} (h : MSh w m) : NwSh w m := ⟨h.1.1, h.2.2.1.1, h.2.2.1.2.1, h.2.2.1.2.2, h.1.2⟩
/-- numbers that are alike where a room lies -/
theorem MX.cgX {X Y : Int → Int} {A : Rm} (h : MX X A) (h0 : Y 0 = X 0) (h1 : Y 1 = X 1) (hf : ∀ x, 2607 ≤ x → x < 5820 → Y x = X x) : MX Y A := by
  obtain ⟨g1, g2, g3, g4, g5, g6, g7, g8⟩ := h
  refine ⟨by rw [h0, g1], by rw [h1, g2], g3, g4, fun r r0 r1 => (g5 r r0 r1).fr (fun x hx => hf x ?_ ?_), ?_, g7, fun i i0 i1 => ?_⟩
  · unfold rowC at hx; omega
  · unfold rowC at hx; omega
  · rw [hf _ (by omega) (by omega)]; exact g6
  · rw [hf _ (by omega) (by omega)]; exact g8 i i0 i1
/-- the array Y has from f on what was so of the room B -/
def SnI (Y : Int → Int) (f : Int) (B : Rm) : Prop := ∃ Z, MX Z B ∧ ∀ x, 2607 ≤ x → x < 5820 → Y (f + (x - 2607)) = Z x
def HsM (w : sW) (m hk : Int) (H : Int → Rm) : Prop := gv w m 24 = hk ∧ (0 ≤ hk ∧ hk ≤ 8) ∧ ∀ j, 0 ≤ j → j < hk → SnI (gv w (m + 5)) (3213 * j) (H j)
theorem HsM.mf {w w' : sW} {m hk : Int} {H : Int → Rm} {P : Int → Int → Prop} (h : HsM w m hk H) (g : Mf w w' P) (h1 : ¬ P m 24) (h2 : ∀ j, ¬ P (m + 5) j) : HsM w' m hk H := by
  have e : gv w' (m + 5) = gv w (m + 5) := funext fun j => g.gvE (h2 j)
  unfold HsM
  rw [g.gvE h1, e]
  exact h
theorem MoI.mf {w w' : sW} {m : Int} {A : Rm} {P : Int → Int → Prop} (h : MoI w m A) (g : Mf w w' P) (h1 : ¬ P m 14) (h2 : ∀ j, j = 0 ∨ j = 1 ∨ (2607 ≤ j ∧ j < 5820) → ¬ P (m + 2) j) : MoI w' m A := by
  obtain ⟨⟨a1, a2, a3, a4, a5⟩, a6⟩ := h
  refine ⟨⟨by rw [g.kdE, a1], by rw [g.gvE h1, a2], by rw [g.kdE, a3], by rw [g.lnE, a4], a5⟩, a6.cgX (g.gvE (h2 0 (by omega))) (g.gvE (h2 1 (by omega))) (fun x x0 x1 => g.gvE (h2 x (by omega)))⟩
section MS
variable {d : Nat} {w : sW} {m : Int} {A : Rm} {C : sC}
theorem l_save (h : NwSh w m) {N f : Int} (hN : kd w N = 20 ∧ 32 ≤ N ∧ f + 3213 ≤ ln w N ∧ ln w N ≤ 100000) (hf : 0 ≤ f) (hNm : N ≠ m + 2) (hNm' : N ≠ m) : ∀ (g : Nat) (k : Int) (Y : Int → Int), k + g = 3213 → 0 ≤ k → Rn C mX12_save (2, [some (rV m), some (rV N), some (iV f), some (iV k)], [], sa w N Y) (none, sa w N (fun x => if f + k ≤ x ∧ x < f + 3213 then gv w (m + 2) (2607 + (x - f)) else Y x))
  | 0, k, Y, hk, h0 => by
    rw [show (fun x => if f + k ≤ x ∧ x < f + 3213 then gv w (m + 2) (2607 + (x - f)) else Y x) = Y from funext fun x => by rw [if_neg (by omega)]]
    refine Rn.ret ?_
    rw [eX12_save_2, if_neg (by omega)]
  | g + 1, k, Y, hk, h0 => by
    obtain ⟨a1, a2, a3, a4, a5⟩ := h
    have ih := l_save ⟨a1, a2, a3, a4, a5⟩ hN hf hNm hNm' g (k + 1) (updI Y (f + k) (gv w (m + 2) (2607 + k))) (by omega) (by omega)
    rw [show (fun x => if f + (k + 1) ≤ x ∧ x < f + 3213 then gv w (m + 2) (2607 + (x - f)) else updI Y (f + k) (gv w (m + 2) (2607 + k)) x) = (fun x => if f + k ≤ x ∧ x < f + 3213 then gv w (m + 2) (2607 + (x - f)) else Y x) from funext fun x => by
      unfold updI
      by_cases c : x = f + k
      · rw [if_neg (by omega), if_pos c, if_pos (by omega), c, show f + k - f = k by omega]
      · by_cases c2 : f + k ≤ x ∧ x < f + 3213
        · rw [if_pos (by omega), if_pos c2]
        · rw [if_neg (by omega), if_neg c, if_neg c2]] at ih
    refine Rn.cut ?_ ih
    have e1 : gv (sa w N Y) m 14 = m + 2 := by rw [gvA, if_neg (by omega)]; exact a2
    have e2 : gv (sa w N Y) (m + 2) (2607 + k) = gv w (m + 2) (2607 + k) := by rw [gvA, if_neg (by omega)]
    have a1' : kd (sa w N Y) m = 10 := a1
    rw [eX12_save_2, if_pos (by omega), if_pos a1', w32_eq (x := 2607 + k) (by omega) (by omega), w32_eq (x := f + k) (by omega) (by omega), e1, if_pos ⟨a3, by omega, by rw [lnA, a4]; omega⟩, if_pos ⟨⟨hN.1, hN.2.1⟩, by omega, by rw [lnA]; omega⟩, wl_eq, e2, sa_sv, w32_eq (by omega) (by omega)]
theorem o_save (h : NwSh w m) {N f : Int} (hN : kd w N = 20 ∧ 32 ≤ N ∧ f + 3213 ≤ ln w N ∧ ln w N ≤ 100000) (hf : 0 ≤ f) (hNm : N ≠ m + 2) (hNm' : N ≠ m) : Ex pro (d + 1) 230 w [rV m, rV N, iV f] = some (none, sa w N (fun x => if f ≤ x ∧ x < f + 3213 then gv w (m + 2) (2607 + (x - f)) else gv w N x)) := by
  have l := l_save (C := Ex pro d) h hN hf hNm hNm' 3213 0 (gv w N) (by omega) (by omega)
  rw [sa_self, show f + 0 = f by omega] at l
  exact xX12_save (Rn.cut (eX12_save_0 _ _ _ _ _) l)
theorem l_back (h : NwSh w m) {N f : Int} (hN : kd w N = 20 ∧ f + 3213 ≤ ln w N ∧ ln w N ≤ 100000) (hf : 0 ≤ f) (hNm : N ≠ m + 2) : ∀ (g : Nat) (k : Int) (Y : Int → Int), k + g = 3213 → 0 ≤ k → Rn C mX12_comeBack (2, [some (rV m), some (rV N), some (iV f), some (iV k)], [], sa w (m + 2) Y) (none, sa w (m + 2) (fun x => if 2607 + k ≤ x ∧ x < 5820 then gv w N (f + (x - 2607)) else Y x))
  | 0, k, Y, hk, h0 => by
    rw [show (fun x => if 2607 + k ≤ x ∧ x < 5820 then gv w N (f + (x - 2607)) else Y x) = Y from funext fun x => by rw [if_neg (by omega)]]
    refine Rn.ret ?_
    rw [eX12_comeBack_2, if_neg (by omega)]
  | g + 1, k, Y, hk, h0 => by
    have h' := h.sa Y
    have m32 := h.2.2.2.2
    have ih := l_back h hN hf hNm g (k + 1) (updI Y (2607 + k) (gv w N (f + k))) (by omega) (by omega)
    rw [show (fun x => if 2607 + (k + 1) ≤ x ∧ x < 5820 then gv w N (f + (x - 2607)) else updI Y (2607 + k) (gv w N (f + k)) x) = (fun x => if 2607 + k ≤ x ∧ x < 5820 then gv w N (f + (x - 2607)) else Y x) from funext fun x => by
      unfold updI
      by_cases c : x = 2607 + k
      · rw [if_neg (by omega), if_pos c, if_pos (by omega), c, show 2607 + k - 2607 = k by omega]
      · by_cases c2 : 2607 + k ≤ x ∧ x < 5820
        · rw [if_pos (by omega), if_pos c2]
        · rw [if_neg (by omega), if_neg c, if_neg c2]] at ih
    refine Rn.cut ?_ ih
    have e2 : gv (sa w (m + 2) Y) N (f + k) = gv w N (f + k) := by rw [gvA, if_neg (by omega)]
    rw [eX12_comeBack_2, if_pos (by omega), if_pos h'.1, w32_eq (x := 2607 + k) (by omega) (by omega), w32_eq (x := f + k) (by omega) (by omega), if_pos ⟨hN.1, by omega, by rw [lnA]; omega⟩, h'.2.1, if_pos ⟨⟨h'.2.2.1, by omega⟩, by omega, by rw [h'.2.2.2.1]; omega⟩, wl_eq, e2, sa_sv, w32_eq (by omega) (by omega)]
theorem o_back (h : NwSh w m) {N f : Int} (hN : kd w N = 20 ∧ f + 3213 ≤ ln w N ∧ ln w N ≤ 100000) (hf : 0 ≤ f) (hNm : N ≠ m + 2) : Ex pro (d + 1) 231 w [rV m, rV N, iV f] = some (none, sa w (m + 2) (fun x => if 2607 ≤ x ∧ x < 5820 then gv w N (f + (x - 2607)) else gv w (m + 2) x)) := by
  have l := l_back (C := Ex pro d) h hN hf hNm 3213 0 (gv w (m + 2)) (by omega) (by omega)
  rw [sa_self, show (2607 : Int) + 0 = 2607 by omega] at l
  exact xX12_comeBack (Rn.cut (eX12_comeBack_0 _ _ _ _ _) l)
theorem MoI.back (h : MoI w m A) {N f : Int} {B : Rm} (hs : SnI (gv w N) f B) (e1 : B.1 = A.1) (e2 : B.2.1 = A.2.1) : MX (fun x => if 2607 ≤ x ∧ x < 5820 then gv w N (f + (x - 2607)) else gv w (m + 2) x) B := by
  obtain ⟨Z, z1, z2⟩ := hs
  refine z1.cgX ?_ ?_ (fun x x0 x1 => ?_)
  · rw [if_neg (by omega), h.2.1, z1.1, e1]
  · rw [if_neg (by omega), h.2.2.1, z1.2.1, e2]
  · rw [if_pos ⟨x0, x1⟩, z2 x x0 x1]
theorem SnI.mk {Y X : Int → Int} {f : Int} (h : MX X A) (e : ∀ x, 2607 ≤ x → x < 5820 → Y (f + (x - 2607)) = X x) : SnI Y f A := ⟨X, h, e⟩
theorem l_snapSh (h : MSh w m) {res : Option sV × sW} : ∀ (g : Nat) (k : Int) (Y : Int → Int), k + g = 22491 → 0 ≤ k → Rn C mX12_snap (11, [some (rV m), some (iV 22491)], [], sa w (m + 5) (fun x => if k ≤ x ∧ x < 22491 then Y (x + 3213) else Y x)) res → Rn C mX12_snap (11, [some (rV m), some (iV k)], [], sa w (m + 5) Y) res
  | 0, k, Y, hk, h0, r => by
    rw [show (fun x => if k ≤ x ∧ x < 22491 then Y (x + 3213) else Y x) = Y from funext fun x => by rw [if_neg (by omega)]] at r
    rw [show k = 22491 by omega]
    exact r
  | g + 1, k, Y, hk, h0, r => by
    have ih := l_snapSh h (res := res) g (k + 1) (updI Y k (Y (k + 3213))) (by omega) (by omega) (by
      rw [show (fun x => if k + 1 ≤ x ∧ x < 22491 then updI Y k (Y (k + 3213)) (x + 3213) else updI Y k (Y (k + 3213)) x) = (fun x => if k ≤ x ∧ x < 22491 then Y (x + 3213) else Y x) from funext fun x => by
        by_cases c : x = k
        · subst c
          rw [if_neg (by omega), if_pos (by omega)]
          unfold updI
          rw [if_pos rfl]
        · rw [updI_ne c]
          by_cases c2 : k ≤ x ∧ x < 22491
          · rw [if_pos (by omega), if_pos c2, updI_ne (by omega)]
          · rw [if_neg (by omega), if_neg c2]]
      exact r)
    refine Rn.cut ?_ ih
    have m32 := h.1.2
    have q := h.2.2.2.2.2.1
    have e1 : gv (sa w (m + 5) Y) m 17 = m + 5 := by rw [gvA, if_neg (by omega)]; exact q.1
    have k' : kd (sa w (m + 5) Y) m = 10 := h.1.1
    rw [eX12_snap_11, if_pos (by omega), if_pos k', if_pos k', w32_eq (x := k + 3213) (by omega) (by omega), e1, if_pos ⟨q.2.1, by omega, by rw [lnA, q.2.2]; omega⟩, if_pos ⟨⟨q.2.1, by omega⟩, by omega, by rw [lnA, q.2.2]; omega⟩, wl_eq, gvA, if_pos rfl, sa_sv, w32_eq (by omega) (by omega)]
theorem o_snap (h : MSh w m) (hA : MoI w m A) {hk : Int} {H : Int → Rm} (hh : HsM w m hk H) : ∃ w', Ex pro (d + 2) 232 w [rV m] = some (none, w') ∧ HsM w' m (pushK hk) (pushH hk H A) ∧ Mf w w' (fun r j => (r = m ∧ j = 24) ∨ r = m + 5) := by
  have m32 := h.1.2
  have k := h.1.1
  have q := h.2.2.2.2.2.1
  obtain ⟨g1, g2, g3⟩ := hh
  by_cases c : hk = 8
  · have c' : gv w m 24 = 8 := by rw [g1, c]
    generalize hY : gv w (m + 5) = Y at g3
    have hw1 : Mf w (sv (sa w (m + 5) (fun x => if 0 ≤ x ∧ x < 22491 then Y (x + 3213) else Y x)) m 24 7) (fun r j => (r = m ∧ j = 24) ∨ r = m + 5) := ((Mf.saI w (m + 5) _).trans (Mf.svI _ m 24 7)).mono (fun r j z => z.elim Or.inr Or.inl)
    generalize hw1' : sv (sa w (m + 5) (fun x => if 0 ≤ x ∧ x < 22491 then Y (x + 3213) else Y x)) m 24 7 = w1 at hw1
    have hs1 := h.mf hw1 (fun j hj => by omega)
    have hA1 := hA.mf hw1 (by omega) (fun j hj => by omega)
    have q1 := hs1.2.2.2.2.2.1
    have y1 : ∀ x, gv w1 (m + 5) x = if 0 ≤ x ∧ x < 22491 then Y (x + 3213) else Y x := fun x => by rw [← hw1', gvS, if_neg (by omega), gvA, if_pos rfl]
    have n1 : gv w1 m 24 = 7 := by rw [← hw1', gvSS]
    have sv1 := o_save (d := d) (w := w1) (N := m + 5) (f := 22491) hs1.nw ⟨q1.2.1, by omega, by rw [q1.2.2]; omega, by rw [q1.2.2]; omega⟩ (by omega) (by omega) (by omega)
    refine ⟨sv (sa w1 (m + 5) (fun x => if 22491 ≤ x ∧ x < 22491 + 3213 then gv w1 (m + 2) (2607 + (x - 22491)) else gv w1 (m + 5) x)) m 24 8, xX12_snap (Rn.cut (c' := (11, [some (rV m), some (iV 0)], [], w)) ?_ ?_), ⟨?_, ?_, fun j j0 j1 => ?_⟩, ?_⟩
    · rw [eX12_snap_0, if_pos k, if_pos c']
    · have ws : w = sa w (m + 5) Y := by rw [← hY, sa_self]
      rw [ws]
      refine l_snapSh h 22491 0 Y (by omega) (by omega) (Rn.ret ?_)
      have e1 : gv (sa w (m + 5) (fun x => if 0 ≤ x ∧ x < 22491 then Y (x + 3213) else Y x)) m 24 = 8 := by rw [gvA, if_neg (by omega)]; exact c'
      have k' : kd (sa w (m + 5) (fun x => if 0 ≤ x ∧ x < 22491 then Y (x + 3213) else Y x)) m = 10 := k
      rw [eX12_snap_11, if_neg (by omega), if_pos k', if_pos k', wl_eq, e1, w32_eq (by omega) (by omega), show (8 : Int) - 1 = 7 by omega, hw1', if_pos hs1.1.1, if_pos hs1.1.1, if_pos hs1.1.1, q1.1, n1, w32_eq (by omega) (by omega), show (3213 : Int) * 7 = 22491 by omega, sv1]
      simp only [bN]
      have e2 : gv (sa w1 (m + 5) (fun x => if 22491 ≤ x ∧ x < 22491 + 3213 then gv w1 (m + 2) (2607 + (x - 22491)) else gv w1 (m + 5) x)) m 24 = 7 := by rw [gvA, if_neg (by omega)]; exact n1
      rw [kdA, if_pos hs1.1.1, if_pos hs1.1.1, wl_eq, e2, w32_eq (by omega) (by omega)]
      rfl
    · rw [gvSS]; unfold pushK; rw [if_pos c]
    · unfold pushK; rw [if_pos c]; omega
    · have j8 : j < 8 := by unfold pushK at j1; rw [if_pos c] at j1; exact j1
      have e3 : gv (sv (sa w1 (m + 5) (fun x => if 22491 ≤ x ∧ x < 22491 + 3213 then gv w1 (m + 2) (2607 + (x - 22491)) else gv w1 (m + 5) x)) m 24 8) (m + 5) = (fun x => if 22491 ≤ x ∧ x < 22491 + 3213 then gv w1 (m + 2) (2607 + (x - 22491)) else gv w1 (m + 5) x) := funext fun x => by rw [gvS, if_neg (by omega), gvA, if_pos rfl]
      rw [e3]
      unfold pushH
      rw [if_pos c]
      by_cases c7 : j = 7
      · rw [if_pos c7, c7]
        refine SnI.mk hA1.2 (fun x x0 x1 => ?_)
        rw [if_pos (by omega), show 2607 + (3213 * 7 + (x - 2607) - 22491) = x by omega]
      · rw [if_neg c7]
        obtain ⟨Z, z1, z2⟩ := g3 (j + 1) (by omega) (by omega)
        refine ⟨Z, z1, fun x x0 x1 => ?_⟩
        show (if 22491 ≤ 3213 * j + (x - 2607) ∧ 3213 * j + (x - 2607) < 22491 + 3213 then gv w1 (m + 2) (2607 + (3213 * j + (x - 2607) - 22491)) else gv w1 (m + 5) (3213 * j + (x - 2607))) = Z x
        rw [if_neg (by omega), y1, if_pos (by omega), ← z2 x x0 x1, show 3213 * j + (x - 2607) + 3213 = 3213 * (j + 1) + (x - 2607) by omega]
    · exact (hw1.trans ((Mf.saI w1 (m + 5) _).trans (Mf.svI _ m 24 8))).mono (fun r j z => by
        rcases z with z | z | z
        · exact z
        · exact Or.inr z
        · exact Or.inl z)
  · have c' : ¬ gv w m 24 = 8 := by rw [g1]; exact c
    have sv1 := o_save (d := d) (w := w) (N := m + 5) (f := 3213 * hk) h.nw ⟨q.2.1, by omega, by rw [q.2.2]; omega, by rw [q.2.2]; omega⟩ (by omega) (by omega) (by omega)
    refine ⟨sv (sa w (m + 5) (fun x => if 3213 * hk ≤ x ∧ x < 3213 * hk + 3213 then gv w (m + 2) (2607 + (x - 3213 * hk)) else gv w (m + 5) x)) m 24 (hk + 1), xX12_snap (Rn.ret ?_), ⟨?_, ?_, fun j j0 j1 => ?_⟩, ?_⟩
    · rw [eX12_snap_0, if_pos k, if_neg c', if_pos k, if_pos k, if_pos k, q.1, g1, w32_eq (by omega) (by omega), sv1]
      simp only [bN]
      have e2 : gv (sa w (m + 5) (fun x => if 3213 * hk ≤ x ∧ x < 3213 * hk + 3213 then gv w (m + 2) (2607 + (x - 3213 * hk)) else gv w (m + 5) x)) m 24 = hk := by rw [gvA, if_neg (by omega)]; exact g1
      rw [kdA, if_pos k, if_pos k, wl_eq, e2, w32_eq (by omega) (by omega)]
    · rw [gvSS]; unfold pushK; rw [if_neg c]
    · unfold pushK; rw [if_neg c]; omega
    · have j8 : j < hk + 1 := by unfold pushK at j1; rw [if_neg c] at j1; exact j1
      have e3 : gv (sv (sa w (m + 5) (fun x => if 3213 * hk ≤ x ∧ x < 3213 * hk + 3213 then gv w (m + 2) (2607 + (x - 3213 * hk)) else gv w (m + 5) x)) m 24 (hk + 1)) (m + 5) = (fun x => if 3213 * hk ≤ x ∧ x < 3213 * hk + 3213 then gv w (m + 2) (2607 + (x - 3213 * hk)) else gv w (m + 5) x) := funext fun x => by rw [gvS, if_neg (by omega), gvA, if_pos rfl]
      rw [e3]
      unfold pushH
      rw [if_neg c]
      by_cases c7 : j = hk
      · rw [if_pos c7, c7]
        refine SnI.mk hA.2 (fun x x0 x1 => ?_)
        rw [if_pos (by omega), show 2607 + (3213 * hk + (x - 2607) - 3213 * hk) = x by omega]
      · rw [if_neg c7]
        obtain ⟨Z, z1, z2⟩ := g3 j j0 (by omega)
        refine ⟨Z, z1, fun x x0 x1 => ?_⟩
        show (if 3213 * hk ≤ 3213 * j + (x - 2607) ∧ 3213 * j + (x - 2607) < 3213 * hk + 3213 then gv w (m + 2) (2607 + (3213 * j + (x - 2607) - 3213 * hk)) else gv w (m + 5) (3213 * j + (x - 2607))) = Z x
        rw [if_neg (by omega), ← z2 x x0 x1]
    · exact ((Mf.saI w (m + 5) _).trans (Mf.svI _ m 24 (hk + 1))).mono (fun r j z => z.elim Or.inr Or.inl)
end MS
