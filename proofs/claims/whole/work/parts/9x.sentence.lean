/-! ===== sentence, whole ===== -/
/-- the class's sentence at a: none, or it says f of rooms with R rows -/
def SeK (w : sW) (a R : Int) (b : Bool) (f : Sb) : Prop := ∃ c L, SeR w a c L ∧ (b = false → c = 0) ∧ (b = true → 0 < c ∧ Dn R [] L f)
/-- the reference's -/
def SeN (X : Int → Int) (R : Int) (b : Bool) (f : Sb) : Prop := (b = false → X 5820 = 0) ∧ (b = true → X 5820 = 1 ∧ Nd (fun x => X (5822 + x)) R 40 (X 5821) f)
theorem SeN.cg {X Y : Int → Int} {R : Int} {b : Bool} {f : Sb} (h : SeN X R b f) (e : ∀ x, 5820 ≤ x → x < 6062 → Y x = X x) : SeN Y R b f := by
  refine ⟨fun z => by rw [e _ (by omega) (by omega)]; exact h.1 z, fun z => ?_⟩
  have := h.2 z
  refine ⟨by rw [e _ (by omega) (by omega)]; exact this.1, ?_⟩
  rw [e 5821 (by omega) (by omega)]
  exact this.2.to (Nat.le_refl _) (fun x x0 x1 => e _ (by omega) (by omega))
abbrev snM (m r j : Int) : Prop := (r = m ∧ (j = 0 ∨ (2 ≤ j ∧ j ≤ 13) ∨ (35 ≤ j ∧ j ≤ 38))) ∨ r = m + 15 ∨ (r = m + 2 ∧ 5820 ≤ j)
section QS
variable {d : Nat} {w : sW} {m : Int} {t : Int → Int} {n : Int} {A : Rm}
theorem l_sen79 (h : MSh w m) : ∀ (f : Nat) (i : Int) (Y : Int → Int), i + f = 240 → 0 ≤ i → Rn (Ex pro d) mX12_sentence (79, [some (rV m), some (iV i)], [], sa w (m + 2) Y) (some (iV (gv w m 36)), sa w (m + 2) (fun x => if 5822 + i ≤ x ∧ x < 6062 then gv w (m + 15) (x - 5822) else Y x))
  | 0, i, Y, hf, h0 => by
    have k : kd (sa w (m + 2) Y) m = 10 := h.1.1
    refine Rn.ret ?_
    rw [eX12_sentence_79, if_neg (by omega), if_pos k, show gv (sa w (m + 2) Y) m 36 = gv w m 36 by rw [gvA, if_neg (by omega)]]
    rw [sa_eq (X := Y) (Y := fun x => if 5822 + i ≤ x ∧ x < 6062 then gv w (m + 15) (x - 5822) else Y x) (fun x => by rw [if_neg (by omega)])]
  | f + 1, i, Y, hf, h0 => by
    have k : kd (sa w (m + 2) Y) m = 10 := h.1.1
    have q2 := h.2.2.1
    have q15 := h.2.2.2.2.2.2.2.2.2.2.2.2.2.2.2
    have m32 := h.1.2
    have p14 : gv (sa w (m + 2) Y) m 14 = m + 2 := by rw [gvA, if_neg (by omega)]; exact q2.1
    have p34 : gv (sa w (m + 2) Y) m 34 = m + 15 := by rw [gvA, if_neg (by omega)]; exact q15.1
    have g := l_sen79 h f (i + 1) (updI Y (5822 + i) (gv w (m + 15) i)) (by omega) (by omega)
    rw [sa_eq (X := fun x => if 5822 + (i + 1) ≤ x ∧ x < 6062 then gv w (m + 15) (x - 5822) else updI Y (5822 + i) (gv w (m + 15) i) x) (Y := fun x => if 5822 + i ≤ x ∧ x < 6062 then gv w (m + 15) (x - 5822) else Y x) (fun x => by
      by_cases c : 5822 + (i + 1) ≤ x ∧ x < 6062
      · rw [if_pos c, if_pos (by omega)]
      · rw [if_neg c]
        unfold updI
        by_cases c2 : x = 5822 + i
        · rw [if_pos c2, if_pos (by omega), c2]
          congr 1
          omega
        · rw [if_neg c2, if_neg (by omega)])] at g
    refine Rn.cut ?_ g
    rw [eX12_sentence_79, if_pos (by omega), if_pos k, if_pos k, p34, if_pos ⟨q15.2.1, h0, by rw [show ln (sa w (m + 2) Y) (m + 15) = 240 from q15.2.2]; omega⟩, p14, w32_eq (x := 5822 + i) (by omega) (by omega), if_pos ⟨⟨q2.2.1, by omega⟩, by omega, by rw [show ln (sa w (m + 2) Y) (m + 2) = 6062 from q2.2.2]; omega⟩, wl_eq, gvA, if_neg (by omega), sa_sv, w32_eq (by omega) (by omega)]
/-- up to the end of the reading -/
theorem l_msen (h : MSh w m) (hN : NmM w m A) (hT : TpI w m 1 2 (m + 1) t n) : ∃ w4 w5, (sg (Ex pro (d + 43)) mX12_sentence 2000 0 [some (rV m), none] [] w = if kd w4 m = 10 then bI (Ex pro (d + 43) 266 w4 [rV m]) (fun x6 w5 =>
  if x6 = 0 then
   (if kd w5 m = 10 then
   some (.inr (some (iV (w32 ((-1) - (gv w5 m 11)))), w5)) else none)
  else
  if kd w5 m = 10 then
  if (gv w5 m 7) = 0 then
   (if kd w5 m = 10 then
   if (kd w5 (gv w5 m 14) = 20 ∧ 32 ≤ (gv w5 m 14)) ∧ 0 ≤ (5820 : Int) ∧ (5820 : Int) < ln w5 (gv w5 m 14) then
   wl (sv w5 (gv w5 m 14) 5820 1) (fun w7 =>
   if kd w7 m = 10 then
   if kd w7 m = 10 then
   if (kd w7 (gv w7 m 14) = 20 ∧ 32 ≤ (gv w7 m 14)) ∧ 0 ≤ (5821 : Int) ∧ (5821 : Int) < ln w7 (gv w7 m 14) then
   wl (sv w7 (gv w7 m 14) 5821 (gv w7 m 38)) (fun w8 =>
   some (.inl (79, [some (rV m), some (iV 0)], [], w8))) else none else none else none) else none else none)
  else
  if kd w5 m = 10 then
  bI (Ex pro (d + 43) 165 w5 [rV m, iV 1]) (fun x10 w9 =>
  if kd w9 m = 10 then
  some (.inr (some (iV (w32 ((-1) - (gv w9 m 11)))), w9)) else none) else none else none) else none) ∧ kd w4 m = 10 ∧ Ex pro (d + 43) 266 w4 [rV m] = some (some (iV (okR (cdT t n 200 (saF t n 200 A 8) 0 0).1.1)), w5) ∧ PoM w4 w5 m t n 200 A (cdT t n 200 (saF t n 200 A 8) 0 0) 0 0 (-1) ∧ TpI w5 m 1 2 (m + 1) t 0 ∧ Mf w w5 (fun r j => snM m r j ∧ r ≠ m + 2) := by
  have hn := hT.2.2.1
  obtain ⟨w1, a1', a2, a3, a4, a5⟩ := o_begin (d := d + 40) (most := 200) (w := w) h.1.1 hT (by omega)
  have m2 := Mf.svI w1 m 35 0
  have m3 := Mf.svI (sv w1 m 35 0) m 36 0
  have m4 := Mf.svI (sv (sv w1 m 35 0) m 36 0) m 37 0
  have m14 : Mf w1 (sv (sv (sv w1 m 35 0) m 36 0) m 37 0) (fun r j => r = m ∧ (j = 35 ∨ j = 36 ∨ j = 37)) := (m2.trans (m3.trans m4)).mono (fun r j z => by omega)
  have mm : Mf w (sv (sv (sv w1 m 35 0) m 36 0) m 37 0) (fun r j => r = m ∧ (j = 0 ∨ (2 ≤ j ∧ j ≤ 12) ∨ (35 ≤ j ∧ j ≤ 37))) := (a5.trans m14).mono (fun r j z => by omega)
  have S4 : StM (sv (sv (sv w1 m 35 0) m 36 0) m 37 0) m t n 200 A 0 0 0 0 := ⟨⟨fun _ => ⟨a2.mf m14 (fun j z => by omega) (fun j => by omega), rfl, by show (0 : Int) ≤ 0; omega, by rw [m14.gvE (by omega)]; exact a3⟩, fun z => absurd rfl z⟩, hN.mf mm (fun j z => by omega) (by omega) (fun j => by omega), by rw [m4.gvE (by omega), m3.gvE (by omega), gvSS]; rfl, by rw [m4.gvE (by omega), gvSS], gvSS _ _ _ _, by omega⟩
  obtain ⟨w5, b1, b2⟩ := o_readOr (d := d + 37) (o_said 8 (d + 32) 0 (by omega) (by omega) (by omega)) (fun p c h0 hc h20 => saF_ok 8 p c h0 hc h20) _ 0 0 0 S4 (by omega)
  refine ⟨_, w5, ?_, S4.k10, b1, b2, (a4.mf m14 (by omega) (by omega) (fun j => by omega)).mf b2.2.1 (by omega) (by omega) (fun j => by omega), (mm.trans b2.2.1).mono (fun r j z => by omega)⟩
  have k1 : kd w1 m = 10 := by rw [a5.kdE]; exact h.1.1
  have k2 : kd (sv w1 m 35 0) m = 10 := k1
  have k3 : kd (sv (sv w1 m 35 0) m 36 0) m = 10 := k1
  rw [eX12_sentence_0, if_pos h.1.1, a1']
  simp only [bN]
  rw [if_pos k1, wl_eq, if_pos k2, wl_eq, if_pos k3, wl_eq]
theorem q_senN (h : MSh w m) (hN : NmM w m A) (hT : TpI w m 1 2 (m + 1) t n) (e : (seF t n 200 A).1.1 ≠ 0) : ∃ w', Ex pro (d + 44) 273 w [rV m] = some (some (iV (w32 (-1 - (seF t n 200 A).1.2.1))), w') ∧ TpI w' m 1 2 (m + 1) t 0 ∧ gv w' m 10 = (seF t n 200 A).1.1 ∧ Mf w w' (fun r j => snM m r j ∧ r ≠ m + 2) := by
  obtain ⟨w4, w5, eq, k4, b1, ⟨b2, b3, b4⟩, b5, b6⟩ := l_msen (d := d) h hN hT
  have b6' := b6
  have k5 : kd w5 m = 10 := by rw [b6.kdE]; exact h.1.1
  unfold seF at e ⊢
  generalize cdT t n 200 (saF t n 200 A 8) 0 0 = R at e b1 b2 b4 ⊢
  by_cases z : R.1.1 = 0
  · by_cases y : tkK t n 200 R.1.2.2 = 0
    · rw [if_neg (fun v => v.2 y)] at e
      exact absurd z e
    · rw [if_pos ⟨z, y⟩]
      have r := (b2.1 z).1
      obtain ⟨w9, c1, c2, c3, c4⟩ := o_bad (d := d + 42) r 1
      rw [show (if tkK t n 200 R.1.2.2 = 1 then (1 : Int) else 1) = 1 by split <;> rfl] at c3
      refine ⟨w9, xX12_sentence (Rn.ret ?_), b5.mf c4 (by omega) (by omega) (fun j => by omega), c3.1, (b6'.trans c4).mono (fun r j z => by omega)⟩
      rw [eq, if_pos k4, b1]
      simp only [bI]
      rw [okR1 z, if_neg (by simp), if_pos k5, r.2.1, if_neg y, if_pos k5, c1]
      simp only []
      rw [if_pos (show kd w9 m = 10 by rw [c4.kdE]; exact k5), c3.2]
  · rw [if_neg (fun v => z v.1)]
    have fl := b2.2 z
    refine ⟨w5, xX12_sentence (Rn.ret ?_), b5, fl.1, b6'⟩
    rw [eq, if_pos k4, b1]
    simp only [bI]
    rw [okR0 z, if_pos (by simp), if_pos k5, fl.2]
theorem q_senY (h : MSh w m) (hN : NmM w m A) (hT : TpI w m 1 2 (m + 1) t n) (e : (seF t n 200 A).1.1 = 0) : ∃ w', Ex pro (d + 44) 273 w [rV m] = some (some (iV (seF t n 200 A).2.1), w') ∧ TpI w' m 1 2 (m + 1) t 0 ∧ gv w' m 10 = 0 ∧ SeN (gv w' (m + 2)) A.1 true (seF t n 200 A).2.2 ∧ Mf w w' (snM m) := by
  obtain ⟨w4, w5, eq, k4, b1, ⟨b2, b3, b4⟩, b5, b6⟩ := l_msen (d := d) h hN hT
  have k5 : kd w5 m = 10 := by rw [b6.kdE]; exact h.1.1
  have M5 := h.mf b6 (fun j z => by omega)
  unfold seF at e ⊢
  generalize cdT t n 200 (saF t n 200 A 8) 0 0 = R at e b1 b2 b4 ⊢
  by_cases y : R.1.1 = 0 ∧ tkK t n 200 R.1.2.2 ≠ 0
  · rw [if_pos y] at e
    exact absurd (show (1 : Int) = 0 from e) (by omega)
  · rw [if_neg y] at e ⊢
    have y2 : tkK t n 200 R.1.2.2 = 0 := Decidable.byContradiction (fun v => y ⟨e, v⟩)
    obtain ⟨k', ⟨s1, s2, s3, s4, s5, s6⟩, x2, x3, x4, x5⟩ := b4 e
    have r := (b2.1 e).1
    have q2 := M5.2.2.1
    have m32 := h.1.2
    have m7 := Mf.svI w5 (m + 2) 5820 1
    have m8 := Mf.svI (sv w5 (m + 2) 5820 1) (m + 2) 5821 (gv w5 m 38)
    have m78 : Mf w5 (sv (sv w5 (m + 2) 5820 1) (m + 2) 5821 (gv w5 m 38)) (fun r j => r = m + 2 ∧ (j = 5820 ∨ j = 5821)) := (m7.trans m8).mono (fun r j z => by omega)
    have M8 := M5.mf m78 (fun j z => by omega)
    have u0 : gv (sv (sv w5 (m + 2) 5820 1) (m + 2) 5821 (gv w5 m 38)) (m + 2) 5820 = 1 := by rw [m8.gvE (by omega), gvSS]
    have u1 : gv (sv (sv w5 (m + 2) 5820 1) (m + 2) 5821 (gv w5 m 38)) (m + 2) 5821 = gv w5 m 38 := gvSS _ _ _ _
    have cp := l_sen79 (d := d + 43) M8 240 0 (gv (sv (sv w5 (m + 2) 5820 1) (m + 2) 5821 (gv w5 m 38)) (m + 2)) (by omega) (by omega)
    rw [sa_self] at cp
    have e36 : gv (sv (sv w5 (m + 2) 5820 1) (m + 2) 5821 (gv w5 m 38)) m 36 = R.2.1 := by rw [m78.gvE (by omega)]; exact s4
    have e15 : ∀ x, gv (sv (sv w5 (m + 2) 5820 1) (m + 2) 5821 (gv w5 m 38)) (m + 15) x = gv w5 (m + 15) x := fun x => m78.gvE (by omega)
    rw [e36] at cp
    have k7 : kd (sv w5 (m + 2) 5820 1) m = 10 := k5
    have p7 : gv (sv w5 (m + 2) 5820 1) m 14 = m + 2 := by rw [m7.gvE (by omega)]; exact q2.1
    have t7 : gv (sv w5 (m + 2) 5820 1) m 38 = gv w5 m 38 := m7.gvE (by omega)
    have cut : sg (Ex pro (d + 43)) mX12_sentence 2000 0 [some (rV m), none] [] w = some (.inl (79, [some (rV m), some (iV 0)], [], sv (sv w5 (m + 2) 5820 1) (m + 2) 5821 (gv w5 m 38))) := by
      rw [eq, if_pos k4, b1]
      simp only [bI]
      rw [okR1 e, if_neg (by simp), if_pos k5, r.2.1, if_pos y2, if_pos k5, q2.1, if_pos ⟨⟨q2.2.1, by omega⟩, by omega, by rw [q2.2.2]; omega⟩, wl_eq, if_pos k7, if_pos k7, p7, if_pos ⟨⟨q2.2.1, by omega⟩, by omega, by rw [show ln (sv w5 (m + 2) 5820 1) (m + 2) = 6062 from q2.2.2]; omega⟩, t7, wl_eq]
    generalize sv (sv w5 (m + 2) 5820 1) (m + 2) 5821 (gv w5 m 38) = w8 at cp cut m78 u0 u1 e15
    have m9 := sa_mf (w := w8) (m := m) (X := fun x => if 5822 + 0 ≤ x ∧ x < 6062 then gv w8 (m + 15) (x - 5822) else gv w8 (m + 2) x) (P := fun j => 5822 ≤ j) (fun x hx => by rw [if_neg (by omega)])
    have m59 : Mf w5 (sa w8 (m + 2) (fun x => if 5822 + 0 ≤ x ∧ x < 6062 then gv w8 (m + 15) (x - 5822) else gv w8 (m + 2) x)) (fun r j => r = m + 2 ∧ 5820 ≤ j) := (m78.trans m9).mono (fun r j z => by omega)
    have v : ∀ x, gv (sa w8 (m + 2) (fun x => if 5822 + 0 ≤ x ∧ x < 6062 then gv w8 (m + 15) (x - 5822) else gv w8 (m + 2) x)) (m + 2) x = if 5822 + 0 ≤ x ∧ x < 6062 then gv w8 (m + 15) (x - 5822) else gv w8 (m + 2) x := fun x => by rw [gvA, if_pos rfl]
    refine ⟨_, xX12_sentence (Rn.cut cut cp), b5.mf m59 (by omega) (by omega) (fun j => by omega), by rw [m59.gvE (by omega)]; exact (b2.1 e).2.2.2, ⟨fun z => Bool.noConfusion z, fun _ => ⟨by rw [v, if_neg (by omega)]; exact u0, ?_⟩⟩, (b6.trans m59).mono (fun r j z => by omega)⟩
    rw [v, if_neg (by omega), u1]
    refine x5.to (by omega) (fun x x0 x1 => ?_)
    show gv (sa w8 (m + 2) _) (m + 2) (5822 + x) = _
    rw [v, if_pos (by omega), e15]
    congr 1
    omega
end QS
section PS
variable {d : Nat} {w : sW} {t : Int → Int} {n q hk s s' : Int} {A : Rm} {H : Int → Rm}
abbrev snC (s' r j : Int) : Prop := (r = 32 ∧ (j = 1 ∨ j = 5 ∨ j = 6 ∨ j = 13)) ∨ (r = 34 ∧ j ≤ 11) ∨ snP s' r j
theorem l_psen (h : CD w q A hk H) (hT : TpI w 32 0 1 33 t n) (h2 : gv w 32 2 = 34 ∧ kd w 34 = 4) (hW : WordI w) (h6 : gv w 32 6 = s' ∧ (s' = 70 ∨ s' = 75)) (hE : SeSh w s') : ∃ w2 w3 L c, (∀ X, X = sg (Ex pro (d + 23)) mX11_sentence 2000 0 [some (rV 32), none] [] w → X = if (if (seF t n 200 A).1.1 = 0 then (0 : Int) else 1) = 0 then
   (if kd w3 32 = 9 then
   if kd w3 32 = 9 then
   if kd w3 32 = 9 then
   wl (sv w3 32 5 (gv w3 32 6)) (fun w5 =>
   if kd w5 32 = 9 then
   wl (sv w5 32 6 (gv w3 32 5)) (fun w6 =>
   if kd w6 32 = 9 then
   if kd w6 (gv w6 32 5) = 7 then
   some (.inr (some (iV (gv w6 (gv w6 32 5) 5)), w6)) else none else none) else none) else none else none else none)
  else
  if kd w3 32 = 9 then
  if kd w3 (gv w3 32 2) = 4 then
  some (.inr (some (iV (w32 ((-1) - (gv w3 (gv w3 32 2) 11)))), w3)) else none else none) ∧ RS w2 t n 200 (seF t n 200 A).1 ∧ w3 = sv (sv w2 32 1 0) 32 13 (seF t n 200 A).1.1 ∧ SeR w2 s' c L ∧ ((seF t n 200 A).1.1 = 0 → c = (seF t n 200 A).2.1 ∧ 0 < c ∧ Dn A.1 [] L (seF t n 200 A).2.2) ∧ TpI w2 32 0 1 33 t n ∧ Mf w w2 (fun r j => (r = 34 ∧ j ≤ 11) ∨ snP s' r j) := by
  obtain ⟨h1, hq, h8, hH, hO, hB, hn⟩ := h
  obtain ⟨w1, a1', a2, a3, a4, a5⟩ := t_open (d := d + 20) (most := 200) hW h2.2 hT (by omega)
  have R1 : RS w1 t n 200 (0, 0, 0) := ⟨a2, a3, a4, Int.le_refl _⟩
  obtain ⟨w2, L, c, b1, b2, b3, b4, b5⟩ := t_readAll (d := d) (A := A) (c := 0) (L := []) hq (by omega) R1 (h1.2.2.mf a5 (fun r j r0 r1 => by omega)) (hE.mf a5 (fun j j0 j1 => by omega))
  have mm : Mf w w2 (fun r j => (r = 34 ∧ j ≤ 11) ∨ snP s' r j) := (a5.trans b4).mono (fun r j z => by omega)
  have k9 := h1.1
  have k91 : kd w1 32 = 9 := by rw [a5.kdE]; exact k9
  have k92 : kd w2 32 = 9 := by rw [mm.kdE]; exact k9
  have c1 := p_closes (d := d + 22) (w := w2) k92 (by rw [mm.gvE (by omega)]; exact h2.1) b2.1.1.1.1 b2.2.1
  refine ⟨w2, _, L, c, fun X hX => ?_, b2, rfl, b3, b5, hT.mf mm (by omega) (by omega) (fun j => by omega), mm⟩
  rw [hX, eX11_sentence_0, if_pos k9, if_pos k9, if_pos k9, h2.1, if_pos h2.2, hT.1.1, hT.2.1, a1']
  simp only [bN]
  have g6 : gv w1 32 6 = s' := by rw [a5.gvE (by omega)]; exact h6.1
  have g2 : gv w1 32 2 = 34 := by rw [a5.gvE (by omega)]; exact h2.1
  have g3 : gv w1 32 3 = q := by rw [a5.gvE (by omega)]; exact h1.2.1
  have k7 : kd w1 s' = 7 := by rw [a5.kdE]; exact hE.1.1
  rw [if_pos k91, if_pos k91, if_pos k91, g6, if_pos k7, g2, g3, b1]
  simp only []
  rw [if_pos k92, c1]
  simp only [bI]
theorem p_senN (h : CD w q A hk H) (hT : TpI w 32 0 1 33 t n) (h2 : gv w 32 2 = 34 ∧ kd w 34 = 4) (hW : WordI w) (h6 : gv w 32 6 = s' ∧ (s' = 70 ∨ s' = 75)) (hE : SeSh w s') (e : (seF t n 200 A).1.1 ≠ 0) : ∃ w', Ex pro (d + 24) 144 w [rV 32] = some (some (iV (w32 (-1 - (seF t n 200 A).1.2.1))), w') ∧ TpI w' 32 0 1 33 t 0 ∧ gv w' 32 13 = (seF t n 200 A).1.1 ∧ SeSh w' s' ∧ Mf w w' (fun r j => (r = 32 ∧ (j = 1 ∨ j = 13)) ∨ (r = 34 ∧ j ≤ 11) ∨ snP s' r j) := by
  obtain ⟨w2, w3, L, c, b1, b2, b3, b4, b5, b6, b7⟩ := l_psen (d := d) h hT h2 hW h6 hE
  have k9 := h.1.1
  have m3 := Mf.svI w2 32 1 0
  have m4 := Mf.svI (sv w2 32 1 0) 32 13 (seF t n 200 A).1.1
  have m34 : Mf w2 (sv (sv w2 32 1 0) 32 13 (seF t n 200 A).1.1) (fun r j => r = 32 ∧ (j = 1 ∨ j = 13)) := (m3.trans m4).mono (fun r j z => by omega)
  have z13 : gv (sv (sv w2 32 1 0) 32 13 (seF t n 200 A).1.1) 32 13 = (seF t n 200 A).1.1 := gvSS _ _ _ _
  have T3 := b6.zero.mf m4 (by omega) (by omega) (fun j => by omega)
  rw [← b3] at m34 z13 T3
  have k3 : kd w3 32 = 9 := by rw [m34.kdE, b7.kdE]; exact k9
  have g2 : gv w3 32 2 = 34 := by rw [m34.gvE (by omega), b7.gvE (by omega)]; exact h2.1
  have k34 : kd w3 34 = 4 := by rw [m34.kdE, b7.kdE]; exact h2.2
  have g11 : gv w3 34 11 = (seF t n 200 A).1.2.1 := by rw [m34.gvE (by omega)]; exact b2.2.1.2
  refine ⟨w3, xX11_sentence (Rn.ret ?_), T3, z13, b4.1.mf m34 (fun j j0 j1 => by omega), (b7.trans m34).mono (fun r j z => by omega)⟩
  rw [b1 _ rfl, if_neg e, if_neg (by decide), if_pos k3, g2, if_pos k34, g11]
theorem p_senY (h : CD w q A hk H) (hT : TpI w 32 0 1 33 t n) (h2 : gv w 32 2 = 34 ∧ kd w 34 = 4) (hW : WordI w) (h5 : gv w 32 5 = s ∧ (s = 70 ∨ s = 75)) (h6 : gv w 32 6 = s' ∧ (s' = 70 ∨ s' = 75)) (hE : SeSh w s') (e : (seF t n 200 A).1.1 = 0) : ∃ w', Ex pro (d + 24) 144 w [rV 32] = some (some (iV (seF t n 200 A).2.1), w') ∧ TpI w' 32 0 1 33 t 0 ∧ gv w' 32 13 = 0 ∧ SeK w' s' A.1 true (seF t n 200 A).2.2 ∧ (gv w' 32 5 = s' ∧ gv w' 32 6 = s) ∧ Mf w w' (snC s') := by
  obtain ⟨w2, w3, L, c, b1, b2, b3, b4, b5, b6, b7⟩ := l_psen (d := d) h hT h2 hW h6 hE
  rw [e] at b3
  have k9 := h.1.1
  have m3 := Mf.svI w2 32 1 0
  have m4 := Mf.svI (sv w2 32 1 0) 32 13 0
  have m34 : Mf w2 (sv (sv w2 32 1 0) 32 13 0) (fun r j => r = 32 ∧ (j = 1 ∨ j = 13)) := (m3.trans m4).mono (fun r j z => by omega)
  have z13 : gv (sv (sv w2 32 1 0) 32 13 0) 32 13 = 0 := gvSS _ _ _ _
  have T3 := b6.zero.mf m4 (by omega) (by omega) (fun j => by omega)
  rw [← b3] at m34 z13 T3
  clear b3
  have k3 : kd w3 32 = 9 := by rw [m34.kdE, b7.kdE]; exact k9
  have g5 : gv w3 32 5 = s := by rw [m34.gvE (by omega), b7.gvE (by omega)]; exact h5.1
  have g6 : gv w3 32 6 = s' := by rw [m34.gvE (by omega), b7.gvE (by omega)]; exact h6.1
  have m5 := Mf.svI w3 32 5 s'
  have m6 := Mf.svI (sv w3 32 5 s') 32 6 s
  have m56 : Mf w3 (sv (sv w3 32 5 s') 32 6 s) (fun r j => r = 32 ∧ (j = 5 ∨ j = 6)) := (m5.trans m6).mono (fun r j z => by omega)
  have x5 : gv (sv (sv w3 32 5 s') 32 6 s) 32 5 = s' := by rw [m6.gvE (by omega), gvSS]
  have x6 : gv (sv (sv w3 32 5 s') 32 6 s) 32 6 = s := gvSS _ _ _ _
  have m26 : Mf w2 (sv (sv w3 32 5 s') 32 6 s) (fun r j => r = 32) := (m34.trans m56).mono (fun r j z => by omega)
  have E6 := b4.mf m26 (fun j j0 j1 => by omega) (fun r j r0 r1 => by omega)
  refine ⟨_, xX11_sentence (Rn.ret ?_), T3.mf m56 (by omega) (by omega) (fun j => by omega), by rw [m56.gvE (by omega)]; exact z13, ⟨c, L, E6, fun z => Bool.noConfusion z, fun _ => (b5 e).2⟩, ⟨x5, x6⟩, (b7.trans (m34.trans m56)).mono (fun r j z => by omega)⟩
  have k5 : kd (sv w3 32 5 s') 32 = 9 := k3
  have k6 : kd (sv (sv w3 32 5 s') 32 6 s) 32 = 9 := k3
  rw [b1 _ rfl, if_pos e, if_pos rfl, if_pos k3, if_pos k3, if_pos k3, g5, g6, wl_eq, if_pos k5, wl_eq, if_pos k6, x5, if_pos E6.1.1.1, E6.2.2.2.1, (b5 e).1]
end PS
