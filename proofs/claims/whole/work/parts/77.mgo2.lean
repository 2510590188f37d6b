/-! ===== the reference goes on ===== -/
abbrev goJ (j : Int) : Prop := 5 ≤ j ∧ j ≤ 12 ∧ j ≠ 10 ∧ j ≠ 11
section GO2
variable {d : Nat} {w : sW} {m : Int} {C : sC} {t : Int → Int} {n most p : Int}
/-- the last look at what is white -/
theorem l_go0 {a : Int} (hT : MTx w m t n most) (h5 : gv w m 5 = a) (h0 : 0 ≤ a) (hs : a < n → ¬ (t a = 32 ∨ t a = 10)) : sg C mX12_go 2000 0 [some (rV m), none, none, none, none] [] w = if most < n ∧ most ≤ a then some (.inr (none, sv (sv (sv w m 6 a) m 6 most) m 7 1)) else some (.inl (96, [some (rV m), none, none, none, none], [], sv w m 6 a)) := by
  have k := hT.1.1
  have n9 := hT.2.2.1
  have mf := Mf.svI w m 6 a
  have T1 : MTx (sv w m 6 a) m t n most := hT.mf mf (by omega) (fun j => by omega)
  have k1 := T1.1.1
  have g6 : gv (sv w m 6 a) m 6 = a := gvSS _ _ _ _
  have k2 : kd (sv (sv w m 6 a) m 6 most) m = 10 := k1
  have tail : (if kd (sv w m 6 a) m = 10 then if kd (sv w m 6 a) m = 10 then if gv (sv w m 6 a) m 4 < gv (sv w m 6 a) m 3 then (if kd (sv w m 6 a) m = 10 then if kd (sv w m 6 a) m = 10 then if gv (sv w m 6 a) m 6 < gv (sv w m 6 a) m 4 then (some (Sum.inl (96, [some (rV m), none, none, none, none], [], sv w m 6 a)) : Option sO) else if kd (sv w m 6 a) m = 10 then if kd (sv w m 6 a) m = 10 then wl (sv (sv w m 6 a) m 6 (gv (sv w m 6 a) m 4)) (fun w4 => if kd w4 m = 10 then wl (sv w4 m 7 1) (fun w5 => some (.inr (none, w5))) else none) else none else none else none else none) else some (.inl (96, [some (rV m), none, none, none, none], [], sv w m 6 a)) else none else none) = if most < n ∧ most ≤ a then some (.inr (none, sv (sv (sv w m 6 a) m 6 most) m 7 1)) else some (.inl (96, [some (rV m), none, none, none, none], [], sv w m 6 a)) := by
    rw [if_pos k1, if_pos k1, T1.1.2.2.1, T1.1.2.2.2, g6]
    by_cases c : most < n
    · rw [if_pos c, if_pos k1, if_pos k1]
      by_cases c2 : a < most
      · rw [if_pos c2, if_neg (by omega)]
      · rw [if_neg c2, if_pos k1, if_pos k1, wl_eq, if_pos k2, wl_eq, if_pos ⟨c, by omega⟩]
    · rw [if_neg c, if_neg (fun z => c z.1)]
  rw [eX12_go_0, if_pos k, if_pos k, h5, hT.1.2.2.1]
  by_cases c : a < n
  · have ta := hT.2.2.2.2 a h0 (by omega)
    have gd : kd w (m + 1) = 20 ∧ 0 ≤ a ∧ a < ln w (m + 1) := ⟨hT.2.1.1, by omega, by rw [hT.2.1.2]; omega⟩
    have w1 := hs c
    rw [if_pos c, if_pos k, if_pos k, hT.1.2.1, if_pos gd, ta.1, if_neg (fun z => w1 (Or.inl z)), if_pos k, if_pos k, if_pos gd, if_neg (fun z => w1 (Or.inr z)), if_pos k, if_pos k, wl_eq]
    exact tail
  · rw [if_neg c, if_pos k, if_pos k, wl_eq]
    exact tail
theorem o_go (hT : MTx w m t n most) (h5 : gv w m 5 = p) (h0 : 0 ≤ p) (hp : p ≤ n) : ∃ w', Ex pro (d + 2) 159 w [rV m] = some (none, w') ∧ RdM w' m t n most p ∧ Mf w w' (fun r j => r = m ∧ goJ j) := by
  obtain ⟨w1, b1, b2, b3, b4⟩ := l_mws (C := Ex pro (d + 1)) (n - p).toNat p w (by omega) h0 hT h5
  have st := ws_stop (t := t) (L := n) (n - p).toNat p (by omega)
  have sr := wsF_rg t n (n - p).toNat p
  have tw := ws_two (t := t) (n := n) (most := most) (p := p) hp
  have ar : p ≤ tkA t n most p ∧ tkA t n most p ≤ p + (lim n most - p).toNat := wsF_rg t (lim n most) (lim n most - p).toNat p
  have hl : (most < n → lim n most = most) ∧ (n ≤ most → lim n most = n) := by unfold lim; split <;> constructor <;> intro <;> omega
  generalize wsF t n (n - p).toNat p = a at *
  have k1 := b2.1.1
  have n9 := hT.2.2.1
  have m9 := hT.2.2.2.1
  have g0 := l_go0 (C := Ex pro (d + 1)) b2 b3 (by omega) st.2
  have mf6 := Mf.svI w1 m 6 a
  have T6 : MTx (sv w1 m 6 a) m t n most := b2.mf mf6 (by omega) (fun j => by omega)
  have k6 := T6.1.1
  have g5 : gv (sv w1 m 6 a) m 5 = a := by rw [mf6.gvE (by omega)]; exact b3
  by_cases c : lim n most ≤ tkA t n most p
  · have hP : tkP t n most p = lim n most := by unfold tkP; rw [if_pos c]
    have hK : tkK t n most p = if most < n then 1 else 0 := by unfold tkK; rw [if_pos c]
    have la : lim n most ≤ a := by
      by_cases z : p ≤ lim n most
      · exact tw.2 c z
      · omega
    by_cases c2 : most < n
    · have e := hl.1 c2
      rw [if_pos ⟨c2, by omega⟩] at g0
      have mm : Mf w1 (sv (sv (sv w1 m 6 a) m 6 most) m 7 1) (fun r j => r = m ∧ (j = 6 ∨ j = 7)) := (mf6.trans ((Mf.svI _ m 6 most).trans (Mf.svI _ m 7 1))).mono (fun r j z => by omega)
      refine ⟨_, xX12_go (b1 _ (Rn.ret g0)), ⟨b2.mf mm (by omega) (fun j => by omega), by rw [gvSS, hK, if_pos c2], by rw [gvS, if_neg (by omega), gvSS, hP, e], fun z => by rw [hK, if_pos c2] at z; omega, fun z => by rw [hK, if_pos c2] at z; omega, fun z => by rw [hK, if_pos c2] at z; omega, fun z => by rw [hK, if_pos c2] at z; omega⟩, (b4.trans mm).mono (fun r j z => by omega)⟩
    · have e := hl.2 (by omega)
      have an : a = n := by omega
      rw [if_neg (fun z => c2 z.1)] at g0
      have m7 := Mf.svI (sv w1 m 6 a) m 7 0
      refine ⟨sv (sv w1 m 6 a) m 7 0, xX12_go (b1 _ (Rn.cut g0 (Rn.ret ?_))), ⟨T6.mf m7 (by omega) (fun j => by omega), by rw [gvSS, hK, if_neg c2], by rw [m7.gvE (by omega), gvSS, hP, e, an], fun z => by rw [hK, if_neg c2] at z; omega, fun z => by rw [hK, if_neg c2] at z; omega, fun z => by rw [hK, if_neg c2] at z; omega, fun z => by rw [hK, if_neg c2] at z; omega⟩, ((b4.trans mf6).trans m7).mono (fun r j z => by omega)⟩
      rw [eX12_go_96, if_pos k6, if_pos k6, g5, T6.1.2.2.1, if_neg (by omega), if_pos k6, wl_eq]
  · have ea : a = tkA t n most p := tw.1 (by omega)
    have hL : lim n most ≤ n := by unfold lim; split <;> omega
    have an : a < n := by omega
    have hP : tkP t n most p = tkA t n most p := by unfold tkP; rw [if_neg c]
    rw [if_neg (fun z => by have := hl.1 z.1; omega)] at g0
    have ta := T6.2.2.2.2 a (by omega) (by omega)
    have gd : kd (sv w1 m 6 a) (m + 1) = 20 ∧ 0 ≤ a ∧ a < ln (sv w1 m 6 a) (m + 1) := ⟨T6.2.1.1, by omega, by rw [T6.2.1.2]; omega⟩
    by_cases al : isA (t a) ∨ isD (t a)
    · have e0 : enF t n (n - a).toNat a = enF t n ((n - a).toNat - 1) (a + 1) := by
        rw [show (n - a).toNat = ((n - a).toNat - 1) + 1 by omega]
        simp only [enF]
        rw [if_pos ⟨an, al⟩]
        rfl
      have er := enF_rg t n ((n - a).toNat - 1) (a + 1)
      have m12 := Mf.svI (sv w1 m 6 a) m 12 0
      have m8 := Mf.svI (sv (sv w1 m 6 a) m 12 0) m 8 0
      have mm : Mf (sv w1 m 6 a) (sv (sv (sv w1 m 6 a) m 12 0) m 8 0) (fun r j => r = m ∧ (j = 12 ∨ j = 8)) := (m12.trans m8).mono (fun r j z => by omega)
      have T8 : MTx (sv (sv (sv w1 m 6 a) m 12 0) m 8 0) m t n most := T6.mf mm (by omega) (fun j => by omega)
      have S8 : ScnM (sv (sv (sv w1 m 6 a) m 12 0) m 8 0) m t a a := ⟨⟨by rw [mm.gvE (by omega)]; exact g5, by rw [mm.gvE (by omega), gvSS]⟩, fun _ => by rw [m8.gvE (by omega), gvSS, show (a - a).toNat = 0 by omega]; rfl, fun _ => by rw [gvSS, show (a - a).toNat = 0 by omega]; rfl⟩
      obtain ⟨w2, d1, d2, d3, d4⟩ := l_m215 (d := d) (most := most) (a := a) (by omega) (n - a).toNat a (sv (sv (sv w1 m 6 a) m 12 0) m 8 0) (by omega) (by omega) T8 S8 (fun i i0 i1 => by omega) (by rw [e0]; omega)
      have gd1 : gdM t a a := by
        unfold gdM
        rw [show (a - a).toNat = 0 by omega]
        by_cases z : isA (t a)
        · exact Or.inl ⟨z, by simp [cL]⟩
        · exact Or.inr ⟨z, by simp [cL]⟩
      rw [if_pos gd1] at d1
      have hE : tkE t n most p = enF t n (n - a).toNat a := by unfold tkE; rw [← ea]
      have hF : tkF t n most p = (enF t n (n - a).toNat a - a).toNat := by unfold tkF; rw [hE, ← ea]
      have ne : ¬ tkE t n most p = tkA t n most p := by rw [hE, ← ea, e0]; omega
      have hK : tkK t n most p = knd t a (enF t n (n - a).toNat a - a).toNat := by unfold tkK; rw [if_neg c, if_neg ne, hF, ← ea]
      have kr := knd_rg t a (enF t n (n - a).toNat a - a).toNat
      have m7 := Mf.svI w2 m 7 (knd t a (enF t n (n - a).toNat a - a).toNat)
      refine ⟨_, xX12_go (b1 _ (Rn.cut g0 (Rn.cut ?_ d1))), ⟨d2.mf m7 (by omega) (fun j => by omega), by rw [gvSS, hK], by rw [m7.gvE (by omega), d3.1.2, hP, ea], fun z => ?_, fun z => ?_, fun z => ?_, fun z => ?_⟩, ((((b4.trans mf6).trans mm).trans d4).trans m7).mono (fun r j z => by omega)⟩
      · have k12 : kd (sv (sv w1 m 6 a) m 12 0) m = 10 := k6
        rw [eX12_go_96, if_pos k6, if_pos k6, g5, T6.1.2.2.1, if_pos an, if_pos k6, if_pos k6, T6.1.2.1, if_pos gd, ta.1, o_isLetter]
        simp only [bI, ite10]
        by_cases A : isA (t a)
        · rw [if_pos A, o_isLetter, if_pos A]
          simp only []
          rw [if_pos k6, wl_eq, if_pos k12, wl_eq]
        · have D : isD (t a) := by rcases al with y | y; exact absurd y A; exact y
          rw [if_neg A, o_isDigit]
          simp only [ite10]
          rw [if_pos D, o_isLetter, if_neg A]
          simp only []
          rw [if_pos k6, wl_eq, if_pos k12, wl_eq]
      · rw [m7.gvE (by omega), d3.1.1]; unfold tkT; rw [if_neg ne, hE]
      · rw [m7.gvE (by omega), d3.2.1 (by
          rw [hK] at z
          unfold knd at z
          by_cases y : cL t a (enF t n (n - a).toNat a - a).toNat = ((enF t n (n - a).toNat a - a).toNat : Int) ∧ (enF t n (n - a).toNat a - a).toNat ≤ 7
          · rw [e0] at y ⊢; omega
          · rw [if_neg y] at z; split at z <;> omega)]
        unfold tk27
        rw [hF, ← ea]
      · rw [m7.gvE (by omega), d3.2.2 (by
          rw [hK] at z
          unfold knd at z
          by_cases y : cL t a (enF t n (n - a).toNat a - a).toNat = ((enF t n (n - a).toNat a - a).toNat : Int) ∧ (enF t n (n - a).toNat a - a).toNat ≤ 7
          · rw [if_pos y] at z; omega
          · rw [if_neg y] at z
            by_cases y2 : cL t a (enF t n (n - a).toNat a - a).toNat = 0 ∧ (enF t n (n - a).toNat a - a).toNat ≤ 3
            · rw [e0] at y2 ⊢; omega
            · rw [if_neg y2] at z; omega)]
        unfold tkN
        rw [hF, ← ea]
      · rw [hK] at z; omega
    · have e0 : enF t n (n - a).toNat a = a := by
        rw [show (n - a).toNat = ((n - a).toNat - 1) + 1 by omega]
        simp only [enF]
        rw [if_neg (fun z => al z.2)]
      have hE : tkE t n most p = tkA t n most p := by
        show enF t n (n - tkA t n most p).toNat (tkA t n most p) = tkA t n most p
        rw [← ea]; exact e0
      have hK : tkK t n most p = if sgC (t a) then 4 else 1 := by unfold tkK; rw [if_neg c, if_pos hE, ← ea]
      have hTo : tkT t n most p = a + 1 := by unfold tkT; rw [if_pos hE, ← ea]
      have m7 := Mf.svI (sv w1 m 6 a) m 7 (tkK t n most p)
      have m9' := Mf.svI (sv (sv w1 m 6 a) m 7 (tkK t n most p)) m 9 (t a)
      have m5 := Mf.svI (sv (sv (sv w1 m 6 a) m 7 (tkK t n most p)) m 9 (t a)) m 5 (a + 1)
      have mm : Mf (sv w1 m 6 a) (sv (sv (sv (sv w1 m 6 a) m 7 (tkK t n most p)) m 9 (t a)) m 5 (a + 1)) (fun r j => r = m ∧ (j = 7 ∨ j = 9 ∨ j = 5)) := (m7.trans (m9'.trans m5)).mono (fun r j z => by omega)
      have ka : kd (sv (sv w1 m 6 a) m 7 (tkK t n most p)) m = 10 := k6
      have kb : kd (sv (sv (sv w1 m 6 a) m 7 (tkK t n most p)) m 9 (t a)) m = 10 := k6
      have gb : gv (sv (sv (sv w1 m 6 a) m 7 (tkK t n most p)) m 9 (t a)) m 5 = a := by rw [m9'.gvE (by omega), m7.gvE (by omega)]; exact g5
      refine ⟨_, xX12_go (b1 _ (Rn.cut g0 (Rn.ret (w := sv w1 m 6 a) (r := (none, sv (sv (sv (sv w1 m 6 a) m 7 (tkK t n most p)) m 9 (t a)) m 5 (a + 1))) ?_))), ⟨T6.mf mm (by omega) (fun j => by omega), ?_, ?_, fun z => ?_, fun z => ?_, fun z => ?_, fun z => ?_⟩, ((b4.trans mf6).trans mm).mono (fun r j z => by omega)⟩
      · rw [eX12_go_96, if_pos k6, if_pos k6, g5, T6.1.2.2.1, if_pos an, if_pos k6, if_pos k6, T6.1.2.1, if_pos gd, ta.1, o_isLetter]
        simp only [bI, ite10]
        rw [if_neg (fun z => al (Or.inl z)), o_isDigit]
        simp only [ite10]
        rw [if_neg (fun z => al (Or.inr z))]
        have fin : ∀ v, v = tkK t n most p → (if kd (sv w1 m 6 a) m = 10 then wl (sv (sv w1 m 6 a) m 7 v) (fun w5 => if kd w5 m = 10 then wl (sv w5 m 9 (t a)) (fun w6 => if kd w6 m = 10 then if kd w6 m = 10 then wl (sv w6 m 5 (w32 ((gv w6 m 5) + 1))) (fun w7 => (some (Sum.inr (none, w7)) : Option sO)) else none else none) else none) else none) = some (Sum.inr (none, sv (sv (sv (sv w1 m 6 a) m 7 (tkK t n most p)) m 9 (t a)) m 5 (a + 1))) := fun v hv => by
          rw [hv, if_pos k6, wl_eq, if_pos ka, wl_eq, if_pos kb, if_pos kb, gb, w32_eq (by omega) (by omega), wl_eq]
        by_cases s1 : t a = 59
        · rw [if_pos s1]; exact fin 4 (by rw [hK, if_pos (by omega)])
        · rw [if_neg s1]
          by_cases s2 : t a = 60
          · rw [if_pos s2]; exact fin 4 (by rw [hK, if_pos (by omega)])
          · rw [if_neg s2]
            by_cases s3 : t a = 61
            · rw [if_pos s3]; exact fin 4 (by rw [hK, if_pos (by omega)])
            · rw [if_neg s3]
              by_cases s4 : t a = 62
              · rw [if_pos s4]; exact fin 4 (by rw [hK, if_pos (by omega)])
              · rw [if_neg s4]
                by_cases s5 : t a = 40
                · rw [if_pos s5]; exact fin 4 (by rw [hK, if_pos (by omega)])
                · rw [if_neg s5]
                  by_cases s6 : t a = 41
                  · rw [if_pos s6]; exact fin 4 (by rw [hK, if_pos (by omega)])
                  · rw [if_neg s6]; exact fin 1 (by rw [hK, if_neg (by omega)])
      · rw [m5.gvE (by omega), m9'.gvE (by omega), gvSS]
      · rw [mm.gvE (by omega), gvSS, hP, ea]
      · rw [gvSS, hTo]
      · rw [hK] at z; split at z <;> omega
      · rw [hK] at z; split at z <;> omega
      · rw [m5.gvE (by omega), gvSS]; unfold tkS; rw [← ea]
end GO2
