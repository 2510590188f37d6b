/-! ===== image and restore: the reference ===== -/
def ImM (w : sW) (m k : Int) (e : Bool) (B : Rm) (b : Bool) (f : Sb) : Prop := (e = false → gv w (m + 11) k = 0) ∧ (e = true → gv w (m + 11) k = 1 ∧ MX (fun x => gv w (m + 4) (6062 * k + x)) B ∧ SeN (fun x => gv w (m + 4) (6062 * k + x)) B.1 b f ∧ ∀ r, 0 ≤ r → r < B.1 → nmR (B.2.2.1 r) (gv w (m + 10) (4 * k + r)))
theorem ImM.mf {w w' : sW} {m k : Int} {e b : Bool} {B : Rm} {f : Sb} {P : Int → Int → Prop} (h : ImM w m k e B b f) (g : Mf w w' P) (h1 : ¬ P (m + 11) k) (h2 : ∀ x, 0 ≤ x → x < 6062 → ¬ P (m + 4) (6062 * k + x)) (h3 : ∀ r, 0 ≤ r → r < 4 → ¬ P (m + 10) (4 * k + r)) : ImM w' m k e B b f := by
  refine ⟨fun z => by rw [g.gvE h1]; exact h.1 z, fun z => ?_⟩
  obtain ⟨a1, a2, a3, a4⟩ := h.2 z
  have A4 := a2.2.2.1
  refine ⟨by rw [g.gvE h1]; exact a1, a2.cgX (g.gvE (h2 _ (by omega) (by omega))) (g.gvE (h2 _ (by omega) (by omega))) (fun x x0 x1 => g.gvE (h2 _ (by omega) (by omega))), a3.cg (fun x x0 x1 => g.gvE (h2 _ (by omega) (by omega))), fun r r0 r1 => ?_⟩
  rw [g.gvE (h3 _ (by omega) (by omega))]
  exact a4 r r0 r1
section IR
variable {d : Nat} {w : sW} {m k hk : Int} {A B : Rm} {H : Int → Rm} {b e bB : Bool} {f fB : Sb}
theorem l_mi18 (h : MSh w m) (hk : 0 ≤ k ∧ k < 2) {res : Option sV × sW} : ∀ (g : Nat) (i : Int) (Y : Int → Int), i + g = 6062 → 0 ≤ i → Rn (Ex pro d) mX12_image (51, [some (rV m), some (iV k), some (iV 0)], [], sa w (m + 4) (fun x => if 6062 * k + i ≤ x ∧ x < 6062 * k + 6062 then gv w (m + 2) (x - 6062 * k) else Y x)) res → Rn (Ex pro d) mX12_image (18, [some (rV m), some (iV k), some (iV i)], [], sa w (m + 4) Y) res
  | 0, i, Y, hg, h0, r => by
    rw [sa_eq (X := fun x => if 6062 * k + i ≤ x ∧ x < 6062 * k + 6062 then gv w (m + 2) (x - 6062 * k) else Y x) (Y := Y) (fun x => by rw [if_neg (by omega)])] at r
    refine Rn.cut ?_ r
    rw [eX12_image_18, if_neg (by omega)]
  | g + 1, i, Y, hg, h0, r => by
    have k10 : kd (sa w (m + 4) Y) m = 10 := h.1.1
    have q2 := h.2.2.1
    have q4 := h.2.2.2.2.1
    have m32 := h.1.2
    have p2 : gv (sa w (m + 4) Y) m 14 = m + 2 := by rw [gvA, if_neg (by omega)]; exact q2.1
    have p4 : gv (sa w (m + 4) Y) m 16 = m + 4 := by rw [gvA, if_neg (by omega)]; exact q4.1
    refine Rn.cut ?_ (l_mi18 h hk g (i + 1) (updI Y (6062 * k + i) (gv w (m + 2) i)) (by omega) (by omega) ?_)
    · rw [eX12_image_18, if_pos (by omega), if_pos k10, if_pos k10, p2, if_pos ⟨q2.2.1, h0, by rw [show ln (sa w (m + 4) Y) (m + 2) = 6062 from q2.2.2]; omega⟩, p4, w32_eq (x := 6062 * k) (by omega) (by omega), w32_eq (x := 6062 * k + i) (by omega) (by omega), if_pos ⟨⟨q4.2.1, by omega⟩, by omega, by rw [show ln (sa w (m + 4) Y) (m + 4) = 12124 from q4.2.2]; omega⟩, wl_eq, gvA, if_neg (by omega), sa_sv, w32_eq (by omega) (by omega)]
    · rw [sa_eq (Y := fun x => if 6062 * k + i ≤ x ∧ x < 6062 * k + 6062 then gv w (m + 2) (x - 6062 * k) else Y x) (fun x => ?_)]
      · exact r
      · by_cases c : 6062 * k + (i + 1) ≤ x ∧ x < 6062 * k + 6062
        · rw [if_pos c, if_pos (by omega)]
        · rw [if_neg c]
          unfold updI
          by_cases c2 : x = 6062 * k + i
          · rw [if_pos c2, if_pos (by omega), c2]
            congr 1
            omega
          · rw [if_neg c2, if_neg (by omega)]
theorem l_mi51 (h : MSh w m) (hk : 0 ≤ k ∧ k < 2) : ∀ (g : Nat) (i : Int) (Y : Int → Int), i + g = 4 → 0 ≤ i → Rn (Ex pro d) mX12_image (51, [some (rV m), some (iV k), some (iV i)], [], sa w (m + 10) Y) (some (iV 1), sv (sa w (m + 10) (fun x => if 4 * k + i ≤ x ∧ x < 4 * k + 4 then gv w (m + 8) (x - 4 * k) else Y x)) (m + 11) k 1)
  | 0, i, Y, hg, h0 => by
    have k10 : kd (sa w (m + 10) Y) m = 10 := h.1.1
    have q11 := h.2.2.2.2.2.2.2.2.2.2.2.1
    have m32 := h.1.2
    have p11 : gv (sa w (m + 10) Y) m 23 = m + 11 := by rw [gvA, if_neg (by omega)]; exact q11.1
    refine Rn.ret ?_
    rw [sa_eq (X := fun x => if 4 * k + i ≤ x ∧ x < 4 * k + 4 then gv w (m + 8) (x - 4 * k) else Y x) (Y := Y) (fun x => by rw [if_neg (by omega)])]
    rw [eX12_image_51, if_neg (by omega), if_pos k10, p11, if_pos ⟨Or.inr ⟨q11.2.1, Or.inr rfl⟩, by omega, by rw [show ln (sa w (m + 10) Y) (m + 11) = 2 from q11.2.2]; omega⟩, wl_eq]
  | g + 1, i, Y, hg, h0 => by
    have k10 : kd (sa w (m + 10) Y) m = 10 := h.1.1
    have q8 := h.2.2.2.2.2.2.2.2.1
    have q10 := h.2.2.2.2.2.2.2.2.2.2.1
    have m32 := h.1.2
    have p8 : gv (sa w (m + 10) Y) m 20 = m + 8 := by rw [gvA, if_neg (by omega)]; exact q8.1
    have p10 : gv (sa w (m + 10) Y) m 22 = m + 10 := by rw [gvA, if_neg (by omega)]; exact q10.1
    have r := l_mi51 h hk g (i + 1) (updI Y (4 * k + i) (gv w (m + 8) i)) (by omega) (by omega)
    rw [sa_eq (X := fun x => if 4 * k + (i + 1) ≤ x ∧ x < 4 * k + 4 then gv w (m + 8) (x - 4 * k) else updI Y (4 * k + i) (gv w (m + 8) i) x) (Y := fun x => if 4 * k + i ≤ x ∧ x < 4 * k + 4 then gv w (m + 8) (x - 4 * k) else Y x) (fun x => by
      by_cases c : 4 * k + (i + 1) ≤ x ∧ x < 4 * k + 4
      · rw [if_pos c, if_pos (by omega)]
      · rw [if_neg c]
        unfold updI
        by_cases c2 : x = 4 * k + i
        · rw [if_pos c2, if_pos (by omega), c2]
          congr 1
          omega
        · rw [if_neg c2, if_neg (by omega)])] at r
    refine Rn.cut ?_ r
    rw [eX12_image_51, if_pos (by omega), if_pos k10, if_pos k10, p8, if_pos ⟨q8.2.1, h0, by rw [show ln (sa w (m + 10) Y) (m + 8) = 4 from q8.2.2]; omega⟩, p10, w32_eq (x := 4 * k) (by omega) (by omega), w32_eq (x := 4 * k + i) (by omega) (by omega), if_pos ⟨q10.2.1, by omega, by rw [show ln (sa w (m + 10) Y) (m + 10) = 8 from q10.2.2]; omega⟩, wl_eq, gvA, if_neg (by omega), sa_sv, w32_eq (by omega) (by omega)]
abbrev imM (m k r j : Int) : Prop := (r = m ∧ j = 0) ∨ (r = m + 4 ∧ 6062 * k ≤ j ∧ j < 6062 * k + 6062) ∨ (r = m + 10 ∧ 4 * k ≤ j ∧ j < 4 * k + 4) ∨ (r = m + 11 ∧ j = k)
theorem q_imageX (k10 : kd w m = 10) (h : ¬ (0 ≤ k ∧ k < 2)) : Ex pro (d + 2) 276 w [rV m, iV k] = some (some (iV 0), sv w m 0 0) := by
  refine xX12_image (Rn.ret ?_)
  rw [eX12_image_0, if_pos k10, wl_eq, o_isIn]
  simp only [bI, ite10]
  rw [if_neg (by omega)]
theorem q_image (h : MSh w m) (hA : MoI w m A) (hN : NmM w m A) (hS : SeN (gv w (m + 2)) A.1 b f) (k2 : 0 ≤ k ∧ k < 2) : ∃ w', Ex pro (d + 2) 276 w [rV m, iV k] = some (some (iV 1), w') ∧ ImM w' m k true A b f ∧ Mf w w' (imM m k) := by
  have k10 := h.1.1
  have m0 := Mf.svI w m 0 0
  have M1 := h.mf m0 (fun j z => by omega)
  have r1 := Mf.saI (sv w m 0 0) (m + 4) (fun x => if 6062 * k + 0 ≤ x ∧ x < 6062 * k + 6062 then gv (sv w m 0 0) (m + 2) (x - 6062 * k) else gv (sv w m 0 0) (m + 4) x)
  have M2 := M1.mf r1 (fun j z => by omega)
  have g51 := l_mi51 (d := d + 1) M2 k2 4 0 (gv (sa (sv w m 0 0) (m + 4) (fun x => if 6062 * k + 0 ≤ x ∧ x < 6062 * k + 6062 then gv (sv w m 0 0) (m + 2) (x - 6062 * k) else gv (sv w m 0 0) (m + 4) x)) (m + 10)) (by omega) (by omega)
  rw [sa_self] at g51
  have g18 := l_mi18 (d := d + 1) M1 k2 6062 0 (gv (sv w m 0 0) (m + 4)) (by omega) (by omega) g51
  rw [sa_self] at g18
  generalize hw' : sv (sa (sa (sv w m 0 0) (m + 4) (fun x => if 6062 * k + 0 ≤ x ∧ x < 6062 * k + 6062 then gv (sv w m 0 0) (m + 2) (x - 6062 * k) else gv (sv w m 0 0) (m + 4) x)) (m + 10) (fun x => if 4 * k + 0 ≤ x ∧ x < 4 * k + 4 then gv (sa (sv w m 0 0) (m + 4) (fun x => if 6062 * k + 0 ≤ x ∧ x < 6062 * k + 6062 then gv (sv w m 0 0) (m + 2) (x - 6062 * k) else gv (sv w m 0 0) (m + 4) x)) (m + 8) (x - 4 * k) else gv (sa (sv w m 0 0) (m + 4) (fun x => if 6062 * k + 0 ≤ x ∧ x < 6062 * k + 6062 then gv (sv w m 0 0) (m + 2) (x - 6062 * k) else gv (sv w m 0 0) (m + 4) x)) (m + 10) x)) (m + 11) k 1 = w' at g18
  have y0 : ∀ r x, r ≠ m → gv (sv w m 0 0) r x = gv w r x := fun r x h1 => by rw [gvS, if_neg (fun z => h1 z.1)]
  have y1 : ∀ X r x, r ≠ m + 4 → r ≠ m → gv (sa (sv w m 0 0) (m + 4) X) r x = gv w r x := fun X r x h1 h2 => by rw [gvA, if_neg h1]; exact y0 r x h2
  have v : ∀ r j, gv w' r j = if r = m + 11 ∧ j = k then 1 else if r = m + 10 then (if 4 * k + 0 ≤ j ∧ j < 4 * k + 4 then gv w (m + 8) (j - 4 * k) else gv w (m + 10) j) else if r = m + 4 then (if 6062 * k + 0 ≤ j ∧ j < 6062 * k + 6062 then gv w (m + 2) (j - 6062 * k) else gv w (m + 4) j) else if r = m ∧ j = 0 then 0 else gv w r j := fun r j => by
    rw [← hw', gvS]
    by_cases c1 : r = m + 11 ∧ j = k
    · rw [if_pos c1, if_pos c1]
    · rw [if_neg c1, if_neg c1, gvA]
      by_cases c2 : r = m + 10
      · rw [if_pos c2, if_pos c2, y1 _ _ _ (by omega) (by omega), y1 _ _ _ (by omega) (by omega)]
      · rw [if_neg c2, if_neg c2, gvA]
        by_cases c3 : r = m + 4
        · rw [if_pos c3, if_pos c3, y0 _ _ (by omega), y0 _ _ (by omega)]
        · rw [if_neg c3, if_neg c3, gvS]
  have mm : Mf w w' (imM m k) := by
    refine ⟨by rw [← hw']; rfl, by rw [← hw']; rfl, fun r j hp => ?_⟩
    rw [v, if_neg (by omega)]
    by_cases c2 : r = m + 10
    · rw [if_pos c2, if_neg (by omega), c2]
    · rw [if_neg c2]
      by_cases c3 : r = m + 4
      · rw [if_pos c3, if_neg (by omega), c3]
      · rw [if_neg c3, if_neg (by omega)]
  have v4 : ∀ x, 0 ≤ x → x < 6062 → gv w' (m + 4) (6062 * k + x) = gv w (m + 2) x := fun x x0 x1 => by
    rw [v, if_neg (by omega), if_neg (by omega), if_pos rfl, if_pos (by omega), show 6062 * k + x - 6062 * k = x by omega]
  have v10 : ∀ x, 0 ≤ x → x < 4 → gv w' (m + 10) (4 * k + x) = gv w (m + 8) x := fun x x0 x1 => by
    rw [v, if_neg (by omega), if_pos rfl, if_pos (by omega), show 4 * k + x - 4 * k = x by omega]
  have A4 := hA.2.2.2.1
  refine ⟨w', xX12_image (Rn.cut ?_ g18), ⟨fun z => Bool.noConfusion z, fun _ => ⟨by rw [v, if_pos ⟨rfl, rfl⟩], hA.2.cgX (v4 0 (by omega) (by omega)) (v4 1 (by omega) (by omega)) (fun x x0 x1 => v4 x (by omega) (by omega)), hS.cg (fun x x0 x1 => v4 x (by omega) x1), fun r r0 r1 => ?_⟩⟩, mm⟩
  · rw [eX12_image_0, if_pos k10, wl_eq, o_isIn]
    simp only [bI, ite10]
    rw [if_pos (by omega)]
  · rw [v10 r r0 (by omega)]
    exact hN.2.2.2 r r0 r1
theorem l_mr27 (h : MSh w m) (hk : 0 ≤ k ∧ k < 2) {res : Option sV × sW} : ∀ (g : Nat) (i : Int) (Y : Int → Int), i + g = 6062 → 0 ≤ i → Rn (Ex pro d) mX12_restore (60, [some (rV m), some (iV k), some (iV 0)], [], sa w (m + 2) (fun x => if i ≤ x ∧ x < 6062 then gv w (m + 4) (6062 * k + x) else Y x)) res → Rn (Ex pro d) mX12_restore (27, [some (rV m), some (iV k), some (iV i)], [], sa w (m + 2) Y) res
  | 0, i, Y, hg, h0, r => by
    rw [sa_eq (X := fun x => if i ≤ x ∧ x < 6062 then gv w (m + 4) (6062 * k + x) else Y x) (Y := Y) (fun x => by rw [if_neg (by omega)])] at r
    refine Rn.cut ?_ r
    rw [eX12_restore_27, if_neg (by omega)]
  | g + 1, i, Y, hg, h0, r => by
    have k10 : kd (sa w (m + 2) Y) m = 10 := h.1.1
    have q2 := h.2.2.1
    have q4 := h.2.2.2.2.1
    have m32 := h.1.2
    have p2 : gv (sa w (m + 2) Y) m 14 = m + 2 := by rw [gvA, if_neg (by omega)]; exact q2.1
    have p4 : gv (sa w (m + 2) Y) m 16 = m + 4 := by rw [gvA, if_neg (by omega)]; exact q4.1
    refine Rn.cut ?_ (l_mr27 h hk g (i + 1) (updI Y i (gv w (m + 4) (6062 * k + i))) (by omega) (by omega) ?_)
    · rw [eX12_restore_27, if_pos (by omega), if_pos k10, if_pos k10, p4, w32_eq (x := 6062 * k) (by omega) (by omega), w32_eq (x := 6062 * k + i) (by omega) (by omega), if_pos ⟨q4.2.1, by omega, by rw [show ln (sa w (m + 2) Y) (m + 4) = 12124 from q4.2.2]; omega⟩, p2, if_pos ⟨⟨q2.2.1, by omega⟩, h0, by rw [show ln (sa w (m + 2) Y) (m + 2) = 6062 from q2.2.2]; omega⟩, wl_eq, gvA, if_neg (by omega), sa_sv, w32_eq (by omega) (by omega)]
    · rw [sa_eq (Y := fun x => if i ≤ x ∧ x < 6062 then gv w (m + 4) (6062 * k + x) else Y x) (fun x => ?_)]
      · exact r
      · by_cases c : i + 1 ≤ x ∧ x < 6062
        · rw [if_pos c, if_pos (by omega)]
        · rw [if_neg c]
          unfold updI
          by_cases c2 : x = i
          · rw [if_pos c2, if_pos (by omega), c2]
          · rw [if_neg c2, if_neg (by omega)]
theorem l_mr60 (h : MSh w m) (hk : 0 ≤ k ∧ k < 2) : ∀ (g : Nat) (i : Int) (Y : Int → Int), i + g = 4 → 0 ≤ i → Rn (Ex pro d) mX12_restore (60, [some (rV m), some (iV k), some (iV i)], [], sa w (m + 8) Y) (some (iV 1), sv (sa w (m + 8) (fun x => if i ≤ x ∧ x < 4 then gv w (m + 10) (4 * k + x) else Y x)) m 24 0)
  | 0, i, Y, hg, h0 => by
    have k10 : kd (sa w (m + 8) Y) m = 10 := h.1.1
    refine Rn.ret ?_
    rw [sa_eq (X := fun x => if i ≤ x ∧ x < 4 then gv w (m + 10) (4 * k + x) else Y x) (Y := Y) (fun x => by rw [if_neg (by omega)])]
    rw [eX12_restore_60, if_neg (by omega), if_pos k10, wl_eq]
  | g + 1, i, Y, hg, h0 => by
    have k10 : kd (sa w (m + 8) Y) m = 10 := h.1.1
    have q8 := h.2.2.2.2.2.2.2.2.1
    have q10 := h.2.2.2.2.2.2.2.2.2.2.1
    have m32 := h.1.2
    have p8 : gv (sa w (m + 8) Y) m 20 = m + 8 := by rw [gvA, if_neg (by omega)]; exact q8.1
    have p10 : gv (sa w (m + 8) Y) m 22 = m + 10 := by rw [gvA, if_neg (by omega)]; exact q10.1
    have r := l_mr60 h hk g (i + 1) (updI Y i (gv w (m + 10) (4 * k + i))) (by omega) (by omega)
    rw [sa_eq (X := fun x => if i + 1 ≤ x ∧ x < 4 then gv w (m + 10) (4 * k + x) else updI Y i (gv w (m + 10) (4 * k + i)) x) (Y := fun x => if i ≤ x ∧ x < 4 then gv w (m + 10) (4 * k + x) else Y x) (fun x => by
      by_cases c : i + 1 ≤ x ∧ x < 4
      · rw [if_pos c, if_pos (by omega)]
      · rw [if_neg c]
        unfold updI
        by_cases c2 : x = i
        · rw [if_pos c2, if_pos (by omega), c2]
        · rw [if_neg c2, if_neg (by omega)])] at r
    refine Rn.cut ?_ r
    rw [eX12_restore_60, if_pos (by omega), if_pos k10, if_pos k10, p10, w32_eq (x := 4 * k) (by omega) (by omega), w32_eq (x := 4 * k + i) (by omega) (by omega), if_pos ⟨q10.2.1, by omega, by rw [show ln (sa w (m + 8) Y) (m + 10) = 8 from q10.2.2]; omega⟩, p8, if_pos ⟨q8.2.1, h0, by rw [show ln (sa w (m + 8) Y) (m + 8) = 4 from q8.2.2]; omega⟩, wl_eq, gvA, if_neg (by omega), sa_sv, w32_eq (by omega) (by omega)]
theorem q_restX (k10 : kd w m = 10) (h : ¬ (0 ≤ k ∧ k < 2)) : Ex pro (d + 2) 277 w [rV m, iV k] = some (some (iV 0), sv w m 0 0) := by
  refine xX12_restore (Rn.ret ?_)
  rw [eX12_restore_0, if_pos k10, wl_eq, o_isIn]
  simp only [bI, ite10]
  rw [if_neg (by omega)]
theorem q_rest0 (h : MSh w m) (k2 : 0 ≤ k ∧ k < 2) (hI : ImM w m k false B bB fB) : Ex pro (d + 2) 277 w [rV m, iV k] = some (some (iV 0), sv w m 0 0) := by
  have k10 := h.1.1
  have q11 := h.2.2.2.2.2.2.2.2.2.2.2.1
  have m0 := Mf.svI w m 0 0
  refine xX12_restore (Rn.ret ?_)
  rw [eX12_restore_0, if_pos k10, wl_eq, o_isIn]
  simp only [bI, ite10]
  rw [if_pos (by omega), if_pos (show kd (sv w m 0 0) m = 10 from k10), m0.gvE (by omega), q11.1, if_pos ⟨Or.inr q11.2.1, by omega, by rw [show ln (sv w m 0 0) (m + 11) = 2 from q11.2.2]; omega⟩, m0.gvE (by omega), if_pos (hI.1 rfl)]
abbrev reM (m r j : Int) : Prop := (r = m ∧ (j = 0 ∨ j = 24)) ∨ r = m + 2 ∨ r = m + 8
theorem q_rest1 (h : MSh w m) (k2 : 0 ≤ k ∧ k < 2) (hI : ImM w m k true B bB fB) (H : Int → Rm) : ∃ w', Ex pro (d + 2) 277 w [rV m, iV k] = some (some (iV 1), w') ∧ MSh w' m ∧ MoI w' m B ∧ NmM w' m B ∧ SeN (gv w' (m + 2)) B.1 bB fB ∧ HsM w' m 0 H ∧ Mf w w' (reM m) := by
  have k10 := h.1.1
  have q11 := h.2.2.2.2.2.2.2.2.2.2.2.1
  obtain ⟨a1, a2, a3, a4⟩ := hI.2 rfl
  have m0 := Mf.svI w m 0 0
  have M1 := h.mf m0 (fun j z => by omega)
  have r1 := Mf.saI (sv w m 0 0) (m + 2) (fun x => if 0 ≤ x ∧ x < 6062 then gv (sv w m 0 0) (m + 4) (6062 * k + x) else gv (sv w m 0 0) (m + 2) x)
  have M2 := M1.mf r1 (fun j z => by omega)
  have g60 := l_mr60 (d := d + 1) M2 k2 4 0 (gv (sa (sv w m 0 0) (m + 2) (fun x => if 0 ≤ x ∧ x < 6062 then gv (sv w m 0 0) (m + 4) (6062 * k + x) else gv (sv w m 0 0) (m + 2) x)) (m + 8)) (by omega) (by omega)
  rw [sa_self] at g60
  have g27 := l_mr27 (d := d + 1) M1 k2 6062 0 (gv (sv w m 0 0) (m + 2)) (by omega) (by omega) g60
  rw [sa_self] at g27
  generalize hw' : sv (sa (sa (sv w m 0 0) (m + 2) (fun x => if 0 ≤ x ∧ x < 6062 then gv (sv w m 0 0) (m + 4) (6062 * k + x) else gv (sv w m 0 0) (m + 2) x)) (m + 8) (fun x => if 0 ≤ x ∧ x < 4 then gv (sa (sv w m 0 0) (m + 2) (fun x => if 0 ≤ x ∧ x < 6062 then gv (sv w m 0 0) (m + 4) (6062 * k + x) else gv (sv w m 0 0) (m + 2) x)) (m + 10) (4 * k + x) else gv (sa (sv w m 0 0) (m + 2) (fun x => if 0 ≤ x ∧ x < 6062 then gv (sv w m 0 0) (m + 4) (6062 * k + x) else gv (sv w m 0 0) (m + 2) x)) (m + 8) x)) m 24 0 = w' at g27
  have y0 : ∀ r x, r ≠ m → gv (sv w m 0 0) r x = gv w r x := fun r x h1 => by rw [gvS, if_neg (fun z => h1 z.1)]
  have y2 : ∀ X r x, r ≠ m + 2 → r ≠ m → gv (sa (sv w m 0 0) (m + 2) X) r x = gv w r x := fun X r x h1 h2 => by rw [gvA, if_neg h1]; exact y0 r x h2
  have v : ∀ r j, gv w' r j = if r = m ∧ j = 24 then 0 else if r = m + 8 then (if 0 ≤ j ∧ j < 4 then gv w (m + 10) (4 * k + j) else gv w (m + 8) j) else if r = m + 2 then (if 0 ≤ j ∧ j < 6062 then gv w (m + 4) (6062 * k + j) else gv w (m + 2) j) else if r = m ∧ j = 0 then 0 else gv w r j := fun r j => by
    rw [← hw', gvS]
    by_cases c1 : r = m ∧ j = 24
    · rw [if_pos c1, if_pos c1]
    · rw [if_neg c1, if_neg c1, gvA]
      by_cases c2 : r = m + 8
      · rw [if_pos c2, if_pos c2, y2 _ _ _ (by omega) (by omega), y2 _ _ _ (by omega) (by omega)]
      · rw [if_neg c2, if_neg c2, gvA]
        by_cases c3 : r = m + 2
        · rw [if_pos c3, if_pos c3, y0 _ _ (by omega), y0 _ _ (by omega)]
        · rw [if_neg c3, if_neg c3, gvS]
  have mm : Mf w w' (reM m) := by
    refine ⟨by rw [← hw']; rfl, by rw [← hw']; rfl, fun r j hp => ?_⟩
    rw [v, if_neg (by omega), if_neg (by omega), if_neg (by omega), if_neg (by omega)]
  have v2 : ∀ x, 0 ≤ x → x < 6062 → gv w' (m + 2) x = gv w (m + 4) (6062 * k + x) := fun x x0 x1 => by
    rw [v, if_neg (by omega), if_neg (by omega), if_pos rfl, if_pos ⟨x0, x1⟩]
  have v8 : ∀ x, 0 ≤ x → x < 4 → gv w' (m + 8) x = gv w (m + 10) (4 * k + x) := fun x x0 x1 => by
    rw [v, if_neg (by omega), if_pos rfl, if_pos ⟨x0, x1⟩]
  have A4 := a2.2.2.1
  have M' := h.mf mm (fun j z => by omega)
  have X' : MX (gv w' (m + 2)) B := a2.cgX (v2 0 (by omega) (by omega)) (v2 1 (by omega) (by omega)) (fun x x0 x1 => v2 x (by omega) (by omega))
  refine ⟨w', xX12_restore (Rn.cut ?_ g27), M', ⟨M'.now, X'⟩, ⟨M', X'.1, A4, fun r r0 r1 => by rw [v8 r r0 (by omega)]; exact a4 r r0 r1⟩, a3.cg (fun x x0 x1 => v2 x (by omega) x1), ⟨by rw [v, if_pos ⟨rfl, rfl⟩], by omega, fun j j0 j1 => by omega⟩, mm⟩
  rw [eX12_restore_0, if_pos k10, wl_eq, o_isIn]
  simp only [bI, ite10]
  rw [if_pos (by omega), if_pos (show kd (sv w m 0 0) m = 10 from k10), m0.gvE (by omega), q11.1, if_pos ⟨Or.inr q11.2.1, by omega, by rw [show ln (sv w m 0 0) (m + 11) = 2 from q11.2.2]; omega⟩, m0.gvE (by omega), a1, if_neg (by omega)]
end IR
