/-! ===== the reference's book: its answer ===== -/
/-- what the reference keeps told of a book -/
def MtI (w : sW) (m : Int) (T : Int → Int) : Prop := (gv w m 33 = 0 ∧ ∀ i, 0 ≤ i → i < 4 → T i = -1) ∨ (gv w m 33 = 1 ∧ ∀ i, 0 ≤ i → i < 4 → gv w (m + 14) i = T i)
theorem MtI.mf {w w' : sW} {m : Int} {T : Int → Int} {P : Int → Int → Prop} (h : MtI w m T) (g : Mf w w' P) (h1 : ¬ P m 33) (h2 : ∀ j, ¬ P (m + 14) j) : MtI w' m T := by
  rcases h with ⟨a, b⟩ | ⟨a, b⟩
  · exact Or.inl ⟨by rw [g.gvE h1]; exact a, b⟩
  · exact Or.inr ⟨by rw [g.gvE h1]; exact a, fun i i0 i1 => by rw [g.gvE (h2 i)]; exact b i i0 i1⟩
abbrev bkTl (m r j : Int) : Prop := styP m r j ∨ r = m + 14 ∨ (r = m ∧ j = 33)
section MBk2
variable {d : Nat} {w : sW} {m : Int} {t : Int → Int} {n hk : Int} {A B : Rm} {H : Int → Rm} {T : Int → Int}
theorem l_mbtail {a1 a2 a3 c : Int} (h : MSh w m) (hA : MoI w m B) (hh : HsM w m hk H) (hB : SnI (gv w (m + 7)) 0 A) (e1 : A.1 = B.1) (e2 : A.2.1 = B.2.1) (h32 : gv w m 32 = c) (hx : a2 < c → a3 ≠ 0) : ∃ w', Rn (Ex pro (d + 4)) mX12_book (78, [some (rV m), some (iV a1), some (iV a2), some (iV a3)], [], w) (some (iV (if a3 = 0 then -1 else a2)), w') ∧ MoI w' m (if a1 = 1 ∧ 0 < a2 then B else A) ∧ HsM w' m (if a1 = 1 ∧ 0 < a2 then pushK hk else hk) (if a1 = 1 ∧ 0 < a2 then pushH hk H A else H) ∧ (gv w' m 33 = 1 ∧ gv w' (m + 14) 0 = a3 ∧ gv w' (m + 14) 1 = a2 ∧ gv w' (m + 14) 2 = abt B.2.2.2.1 0 B.1.toNat ∧ gv w' (m + 14) 3 = B.2.2.2.2.1) ∧ Mf w w' (bkTl m) := by
  have k := h.1.1
  have m32 := h.1.2
  have q14 := h.2.2.2.2.2.2.2.2.2.2.2.2.2.2.1
  have q2 := h.2.2.1
  generalize hv2 : abt B.2.2.2.1 0 B.1.toNat = v2
  generalize hv3 : B.2.2.2.2.1 = v3
  have m3 := Mf.svI w (m + 14) 0 a3
  have m4 := Mf.svI (sv w (m + 14) 0 a3) (m + 14) 1 a2
  have m7 := Mf.svI (sv (sv w (m + 14) 0 a3) (m + 14) 1 a2) (m + 14) 2 v2
  have m8 := Mf.svI (sv (sv (sv w (m + 14) 0 a3) (m + 14) 1 a2) (m + 14) 2 v2) (m + 14) 3 v3
  have m9 := Mf.svI (sv (sv (sv (sv w (m + 14) 0 a3) (m + 14) 1 a2) (m + 14) 2 v2) (m + 14) 3 v3) m 33 1
  have m34 : Mf w (sv (sv w (m + 14) 0 a3) (m + 14) 1 a2) (fun r j => r = m + 14) := (m3.trans m4).mono (fun r j z => by omega)
  have m37 : Mf w (sv (sv (sv w (m + 14) 0 a3) (m + 14) 1 a2) (m + 14) 2 v2) (fun r j => r = m + 14) := (m34.trans m7).mono (fun r j z => by
    rcases z with z | z
    · exact z
    · exact z.1)
  have m38 : Mf w (sv (sv (sv (sv w (m + 14) 0 a3) (m + 14) 1 a2) (m + 14) 2 v2) (m + 14) 3 v3) (fun r j => r = m + 14) := (m37.trans m8).mono (fun r j z => by
    rcases z with z | z
    · exact z
    · exact z.1)
  have mm : Mf w (sv (sv (sv (sv (sv w (m + 14) 0 a3) (m + 14) 1 a2) (m + 14) 2 v2) (m + 14) 3 v3) m 33 1) (fun r j => r = m + 14 ∨ (r = m ∧ j = 33)) := (m38.trans m9)
  have p3 : gv (sv w (m + 14) 0 a3) m 31 = m + 14 := by rw [m3.gvE (by omega)]; exact q14.1
  have p4 : gv (sv (sv w (m + 14) 0 a3) (m + 14) 1 a2) m 31 = m + 14 := by rw [m34.gvE (by omega)]; exact q14.1
  have p7 : gv (sv (sv (sv w (m + 14) 0 a3) (m + 14) 1 a2) (m + 14) 2 v2) m 31 = m + 14 := by rw [m37.gvE (by omega)]; exact q14.1
  have t7 : gv (sv (sv (sv w (m + 14) 0 a3) (m + 14) 1 a2) (m + 14) 2 v2) m 14 = m + 2 := by rw [m37.gvE (by omega)]; exact q2.1
  have n7 : gv (sv (sv (sv w (m + 14) 0 a3) (m + 14) 1 a2) (m + 14) 2 v2) (m + 2) 2615 = v3 := by rw [m37.gvE (by omega), ← hv3]; exact hA.2.2.2.2.2.2.1
  have A4 : MoI (sv (sv w (m + 14) 0 a3) (m + 14) 1 a2) m B := hA.mf m34 (by omega) (fun j hj => by omega)
  have al := A4.all (d := d + 2)
  rw [hv2] at al
  have k3 : kd (sv w (m + 14) 0 a3) m = 10 := k
  have k4 : kd (sv (sv w (m + 14) 0 a3) (m + 14) 1 a2) m = 10 := k
  have k7 : kd (sv (sv (sv w (m + 14) 0 a3) (m + 14) 1 a2) (m + 14) 2 v2) m = 10 := k
  have k8 : kd (sv (sv (sv (sv w (m + 14) 0 a3) (m + 14) 1 a2) (m + 14) 2 v2) (m + 14) 3 v3) m = 10 := k
  have i0 : ∀ x, 0 ≤ x ∧ x < 4 → (kd w (m + 14) = 20 ∧ 32 ≤ m + 14) ∧ 0 ≤ x ∧ x < ln w (m + 14) := fun x hx => ⟨⟨q14.2.1, by omega⟩, hx.1, by rw [q14.2.2]; exact hx.2⟩
  have j1 : (kd (sv w (m + 14) 0 a3) (m + 14) = 20 ∧ 32 ≤ m + 14) ∧ 0 ≤ (1 : Int) ∧ (1 : Int) < ln (sv w (m + 14) 0 a3) (m + 14) := i0 1 (by omega)
  have j2 : (kd (sv (sv w (m + 14) 0 a3) (m + 14) 1 a2) (m + 14) = 20 ∧ 32 ≤ m + 14) ∧ 0 ≤ (2 : Int) ∧ (2 : Int) < ln (sv (sv w (m + 14) 0 a3) (m + 14) 1 a2) (m + 14) := i0 2 (by omega)
  have j3 : (kd (sv (sv (sv w (m + 14) 0 a3) (m + 14) 1 a2) (m + 14) 2 v2) (m + 14) = 20 ∧ 32 ≤ m + 14) ∧ 0 ≤ (3 : Int) ∧ (3 : Int) < ln (sv (sv (sv w (m + 14) 0 a3) (m + 14) 1 a2) (m + 14) 2 v2) (m + 14) := i0 3 (by omega)
  have jn : kd (sv (sv (sv w (m + 14) 0 a3) (m + 14) 1 a2) (m + 14) 2 v2) (m + 2) = 20 ∧ 0 ≤ (2615 : Int) ∧ (2615 : Int) < ln (sv (sv (sv w (m + 14) 0 a3) (m + 14) 1 a2) (m + 14) 2 v2) (m + 2) := ⟨q2.2.1, by omega, by rw [show ln (sv (sv (sv w (m + 14) 0 a3) (m + 14) 1 a2) (m + 14) 2 v2) (m + 2) = 6062 from q2.2.2]; omega⟩
  have x0 : gv (sv (sv (sv (sv (sv w (m + 14) 0 a3) (m + 14) 1 a2) (m + 14) 2 v2) (m + 14) 3 v3) m 33 1) (m + 14) 0 = a3 := by rw [m9.gvE (by omega), m8.gvE (by omega), m7.gvE (by omega), m4.gvE (by omega), gvSS]
  have x1 : gv (sv (sv (sv (sv (sv w (m + 14) 0 a3) (m + 14) 1 a2) (m + 14) 2 v2) (m + 14) 3 v3) m 33 1) (m + 14) 1 = a2 := by rw [m9.gvE (by omega), m8.gvE (by omega), m7.gvE (by omega), gvSS]
  have x2 : gv (sv (sv (sv (sv (sv w (m + 14) 0 a3) (m + 14) 1 a2) (m + 14) 2 v2) (m + 14) 3 v3) m 33 1) (m + 14) 2 = v2 := by rw [m9.gvE (by omega), m8.gvE (by omega), gvSS]
  have x3 : gv (sv (sv (sv (sv (sv w (m + 14) 0 a3) (m + 14) 1 a2) (m + 14) 2 v2) (m + 14) 3 v3) m 33 1) (m + 14) 3 = v3 := by rw [m9.gvE (by omega), gvSS]
  have x33 : gv (sv (sv (sv (sv (sv w (m + 14) 0 a3) (m + 14) 1 a2) (m + 14) 2 v2) (m + 14) 3 v3) m 33 1) m 33 = 1 := gvSS _ _ _ _
  have eq : ∀ (w9 : sW), w9 = sv (sv (sv (sv (sv w (m + 14) 0 a3) (m + 14) 1 a2) (m + 14) 2 v2) (m + 14) 3 v3) m 33 1 → sg (Ex pro (d + 4)) mX12_book 2000 78 [some (rV m), some (iV a1), some (iV a2), some (iV a3)] [] w = if kd w9 m = 10 then bN (Ex pro (d + 4) 261 w9 [rV m, iV (if a1 = 1 ∧ 0 < a2 then 1 else 0)]) (fun w10 => some (.inr (some (iV (if a3 = 0 then -1 else a2)), w10))) else none := fun w9 h9 => by
    rw [eX12_book_78, if_pos k, h32]
    have fin : ∀ (z : Option sO), z = (if a1 = 1 then
   (if 0 < a2 then
    (if kd w9 m = 10 then
    bN (Ex pro (d + 4) 261 w9 [rV m, iV 1]) (fun w20 =>
    if a3 = 0 then
     (some (.inr (some (iV (-1)), w20)))
    else
    some (.inr (some (iV a2), w20))) else none)
   else
   if kd w9 m = 10 then
   bN (Ex pro (d + 4) 261 w9 [rV m, iV 0]) (fun w21 =>
   if a3 = 0 then
    (some (.inr (some (iV (-1)), w21)))
   else
   some (.inr (some (iV a2), w21))) else none)
  else
  if kd w9 m = 10 then
  bN (Ex pro (d + 4) 261 w9 [rV m, iV 0]) (fun w22 =>
  if a3 = 0 then
   (some (.inr (some (iV (-1)), w22)))
  else
  some (.inr (some (iV a2), w22))) else none) → z = if kd w9 m = 10 then bN (Ex pro (d + 4) 261 w9 [rV m, iV (if a1 = 1 ∧ 0 < a2 then 1 else 0)]) (fun w10 => some (.inr (some (iV (if a3 = 0 then -1 else a2)), w10))) else none := fun z hz => by
      rw [hz]
      by_cases c1 : a1 = 1
      · by_cases c2 : 0 < a2
        · rw [if_pos c1, if_pos c2, if_pos (show a1 = 1 ∧ 0 < a2 from ⟨c1, c2⟩)]
          by_cases c3 : a3 = 0
          · simp only [if_pos c3]
          · simp only [if_neg c3]
        · rw [if_pos c1, if_neg c2, if_neg (show ¬ (a1 = 1 ∧ 0 < a2) from fun y => c2 y.2)]
          by_cases c3 : a3 = 0
          · simp only [if_pos c3]
          · simp only [if_neg c3]
      · rw [if_neg c1, if_neg (show ¬ (a1 = 1 ∧ 0 < a2) from fun y => c1 y.1)]
        by_cases c3 : a3 = 0
        · simp only [if_pos c3]
        · simp only [if_neg c3]
    refine fin _ ?_
    by_cases z : a2 < c
    · rw [if_pos z, if_neg (hx z), if_pos k, q14.1, if_pos (i0 0 (by omega)), wl_eq, if_pos k3, p3, if_pos j1, wl_eq, if_pos k4, if_pos k4, p4, al]
      simp only [bI]
      rw [if_pos j2, wl_eq, if_pos k7, if_pos k7, t7, if_pos jn, p7, if_pos j3, n7, wl_eq, if_pos ⟨k8, by simp⟩, wl_eq, h9]
    · rw [if_neg z, if_pos k, q14.1, if_pos (i0 0 (by omega)), wl_eq, if_pos k3, p3, if_pos j1, wl_eq, if_pos k4, if_pos k4, p4, al]
      simp only [bI]
      rw [if_pos j2, wl_eq, if_pos k7, if_pos k7, t7, if_pos jn, p7, if_pos j3, n7, wl_eq, if_pos ⟨k8, by simp⟩, wl_eq, h9]
  have eq' := eq _ rfl
  clear eq m3 m4 m7 m8 m9 m34 m37 m38 p3 p4 p7 t7 n7 A4 al k3 k4 k7 k8 j1 j2 j3 jn
  generalize sv (sv (sv (sv (sv w (m + 14) 0 a3) (m + 14) 1 a2) (m + 14) 2 v2) (m + 14) 3 v3) m 33 1 = w9 at eq' mm x0 x1 x2 x3 x33
  have M9 := h.mf mm (fun j z => by omega)
  have A9 := hA.mf mm (by omega) (fun j hj => by omega)
  have H9 := hh.mf mm (by omega) (fun j => by omega)
  have S9 : SnI (gv w9 (m + 7)) 0 A := by rw [show gv w9 (m + 7) = gv w (m + 7) from funext fun y => mm.gvE (by omega)]; exact hB
  by_cases y : a1 = 1 ∧ 0 < a2
  · rw [if_pos y] at eq' ⊢
    rw [if_pos y, if_pos y]
    obtain ⟨w', b1, b2, b3, b4⟩ := o_stay1 (d := d + 1) M9 A9 H9 S9 e1 e2
    refine ⟨w', Rn.ret ?_, b2, b3, ⟨by rw [b4.gvE (by omega)]; exact x33, by rw [b4.gvE (by omega)]; exact x0, by rw [b4.gvE (by omega)]; exact x1, by rw [b4.gvE (by omega)]; exact x2, by rw [b4.gvE (by omega)]; exact x3⟩, (mm.trans b4).mono (fun r j z => by omega)⟩
    rw [eq', if_pos M9.1.1, b1]
    simp only [bN]
  · rw [if_neg y] at eq' ⊢
    rw [if_neg y, if_neg y]
    obtain ⟨w', b1, b2, b3, b4⟩ := o_stay0 (d := d + 1) M9 A9 H9 S9 e1 e2
    refine ⟨w', Rn.ret ?_, b2, b3, ⟨by rw [b4.gvE (by omega)]; exact x33, by rw [b4.gvE (by omega)]; exact x0, by rw [b4.gvE (by omega)]; exact x1, by rw [b4.gvE (by omega)]; exact x2, by rw [b4.gvE (by omega)]; exact x3⟩, (mm.trans b4).mono (fun r j z => by omega)⟩
    rw [eq', if_pos M9.1.1, b1]
    simp only [bN]
end MBk2
