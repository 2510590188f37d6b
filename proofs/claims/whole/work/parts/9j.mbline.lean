/-! ===== a line of a book: the reference ===== -/
/-- the last number of a line -/
def blT (t : Int → Int) (n most : Int) (A : Rm) (S : Ts) (K a : Int) : Ts × Int := if K = 8 ∨ K = 9 then stR t n most A S a else if K = 4 ∨ K = 5 then stN t n most S 0 1 else if K = 10 then stN t n most S 0 7 else stN t n most S 1 600
abbrev okZ (x : Int) : Prop := x = 0
theorem okR1 {x : Int} (h : x = 0) : okR x = 1 := if_pos h
theorem okR0 {x : Int} (h : x ≠ 0) : okR x = 0 := if_neg h
section MB
variable {d : Nat} {w : sW} {m : Int} {t : Int → Int} {n most : Int} {S : Ts} {A : Rm} {c K a : Int}
/-- a number, kept, and the line's end -/
theorem l_blnum (hM : MSh w m) (h : RsM w m t n most S) (hs : S.1 = 0) (hc : 0 ≤ c ∧ c ≤ 39) (lo hi : Int) : ∃ w1 w3 w5, Ex pro (d + 4) 166 w [rV m, iV lo, iV hi] = some (some (iV (okR (stN t n most S lo hi).1.1)), w1) ∧ (kd w1 m = 10 ∧ kd w3 m = 10) ∧ Ex pro (d + 4) 254 w1 [rV m, iV (4 * c + 3), iV (okR (stN t n most S lo hi).1.1)] = some (some (iV (okR (stN t n most S lo hi).1.1)), w3) ∧ ((stN t n most S lo hi).1.1 ≠ 0 → RsM w3 m t n most (stN t n most S lo hi).1) ∧ Mf w w3 (fun r j => rdMm m r j ∨ (r = m + 13 ∧ j = 4 * c + 3)) ∧ ((stN t n most S lo hi).1.1 = 0 → Ex pro (d + 4) 167 w3 [rV m] = some (some (iV (okR (stS t n most (stN t n most S lo hi).1 59).1)), w5) ∧ RsM w5 m t n most (stS t n most (stN t n most S lo hi).1 59) ∧ gv w5 (m + 13) (4 * c + 3) = (stN t n most S lo hi).2 ∧ Mf w w5 (fun r j => rdMm m r j ∨ (r = m + 13 ∧ j = 4 * c + 3))) := by
  obtain ⟨w1, a1, a2, a3, a4⟩ := o_stN (d := d + 1) h hs lo hi
  have M1 := hM.mf a4 (fun j z => by omega)
  obtain ⟨w3, b1, b2, b3⟩ := o_keep (d := d + 3) (x := 4 * c + 3) M1 (by omega) (stN t n most S lo hi).1.1 a3
  have R3 := a2.mf b3 (fun j j0 j1 => by omega) (fun j => by omega)
  have m3 : Mf w w3 (fun r j => rdMm m r j ∨ (r = m + 13 ∧ j = 4 * c + 3)) := a4.trans b3
  have k3 : kd w3 m = 10 := by rw [m3.kdE]; exact hM.1.1
  by_cases z : (stN t n most S lo hi).1.1 = 0
  · obtain ⟨w5, e1, e2, e3⟩ := o_stS (d := d + 1) R3 z
    exact ⟨w1, w3, w5, a1, ⟨M1.1.1, k3⟩, b1, fun _ => R3, m3, fun _ => ⟨e1, e2, by rw [e3.gvE (by omega)]; exact b2 z, (m3.trans e3).mono (fun r j z => by omega)⟩⟩
  · exact ⟨w1, w3, w3, a1, ⟨M1.1.1, k3⟩, b1, fun _ => R3, m3, fun y => absurd y z⟩
theorem l_bl189 (hM : MSh w m) (h : RsM w m t n most S) (hs : S.1 = 0) (hc : 0 ≤ c ∧ c ≤ 39) (hK : 4 ≤ K ∧ K ≤ 11) (h8 : ¬ (K = 8 ∨ K = 9)) : ∃ w', Rn (Ex pro (d + 4)) mX12_readBookLine (189, [some (rV m), some (iV (K - 4)), some (iV (4 * c)), none], [iV (if K = 6 ∨ K = 7 ∨ K = 11 then 1 else 0)], w) (some (iV (okR (stS t n most (blT t n most A S K a).1 59).1)), w') ∧ RsM w' m t n most (stS t n most (blT t n most A S K a).1 59) ∧ ((stS t n most (blT t n most A S K a).1 59).1 = 0 → gv w' (m + 13) (4 * c + 3) = (blT t n most A S K a).2) ∧ Mf w w' (fun r j => rdMm m r j ∨ (r = m + 13 ∧ j = 4 * c + 3)) := by
  have k := hM.1.1
  have b3 : w32 (4 * c + 3) = 4 * c + 3 := w32_eq (by omega) (by omega)
  unfold blT
  rw [if_neg h8]
  have fin : ∀ lo hi, (∀ (X : Int) (w1 w3 w5 : sW) (Y : Int), kd w1 m = 10 → kd w3 m = 10 → Ex pro (d + 4) 166 w [rV m, iV lo, iV hi] = some (some (iV (okR X)), w1) → Ex pro (d + 4) 254 w1 [rV m, iV (4 * c + 3), iV (okR X)] = some (some (iV (okR X)), w3) → (X ≠ 0 → sg (Ex pro (d + 4)) mX12_readBookLine 2000 189 [some (rV m), some (iV (K - 4)), some (iV (4 * c)), none] [iV (if K = 6 ∨ K = 7 ∨ K = 11 then 1 else 0)] w = some (.inr (some (iV 0), w3))) ∧ (X = 0 → Ex pro (d + 4) 167 w3 [rV m] = some (some (iV (okR Y)), w5) → sg (Ex pro (d + 4)) mX12_readBookLine 2000 189 [some (rV m), some (iV (K - 4)), some (iV (4 * c)), none] [iV (if K = 6 ∨ K = 7 ∨ K = 11 then 1 else 0)] w = some (.inr (some (iV (okR Y)), w5)))) → ∃ w', Rn (Ex pro (d + 4)) mX12_readBookLine (189, [some (rV m), some (iV (K - 4)), some (iV (4 * c)), none], [iV (if K = 6 ∨ K = 7 ∨ K = 11 then 1 else 0)], w) (some (iV (okR (stS t n most (stN t n most S lo hi).1 59).1)), w') ∧ RsM w' m t n most (stS t n most (stN t n most S lo hi).1 59) ∧ ((stS t n most (stN t n most S lo hi).1 59).1 = 0 → gv w' (m + 13) (4 * c + 3) = (stN t n most S lo hi).2) ∧ Mf w w' (fun r j => rdMm m r j ∨ (r = m + 13 ∧ j = 4 * c + 3)) := fun lo hi hh => by
    obtain ⟨w1, w3, w5, x1, x2, x3, x4, x5, x6⟩ := l_blnum (d := d) hM h hs hc lo hi
    have g := hh (stN t n most S lo hi).1.1 w1 w3 w5 (stS t n most (stN t n most S lo hi).1 59).1 x2.1 x2.2 x1 x3
    by_cases z : (stN t n most S lo hi).1.1 = 0
    · obtain ⟨y1, y2, y3, y4⟩ := x6 z
      exact ⟨w5, Rn.ret (g.2 z y1), y2, fun _ => y3, y4⟩
    · rw [stS_f z, okR0 z]
      exact ⟨w3, Rn.ret (g.1 z), x4 z, fun y => absurd y z, x5⟩
  by_cases c4 : K = 4 ∨ K = 5
  · rw [if_pos c4]
    refine fin 0 1 (fun X w1 w3 w5 Y k1 k3 x1 x3 => ⟨fun z => ?_, fun z x5 => ?_⟩)
    · rw [eX12_readBookLine_189, if_neg (show ¬ (K = 6 ∨ K = 7 ∨ K = 11) by omega), if_pos rfl, if_neg (by omega), if_pos k, x1]
      simp only [bI]
      rw [if_pos k1, b3, x3]
      simp only []
      rw [okR0 z, if_pos (by simp)]
    · rw [eX12_readBookLine_189, if_neg (show ¬ (K = 6 ∨ K = 7 ∨ K = 11) by omega), if_pos rfl, if_neg (by omega), if_pos k, x1]
      simp only [bI]
      rw [if_pos k1, b3, x3]
      simp only []
      rw [okR1 z, if_neg (by omega), if_pos k3, x5]
      simp only []
      by_cases y : Y = 0
      · rw [okR1 y, if_neg (by omega)]
      · rw [okR0 y, if_pos (by simp)]
  · rw [if_neg c4]
    by_cases c10 : K = 10
    · rw [if_pos c10]
      refine fin 0 7 (fun X w1 w3 w5 Y k1 k3 x1 x3 => ⟨fun z => ?_, fun z x5 => ?_⟩)
      · rw [eX12_readBookLine_189, if_neg (show ¬ (K = 6 ∨ K = 7 ∨ K = 11) by omega), if_pos rfl, if_pos (by omega), if_pos k, x1]
        simp only [bI]
        rw [if_pos k1, b3, x3]
        simp only []
        rw [okR0 z, if_pos (by simp)]
      · rw [eX12_readBookLine_189, if_neg (show ¬ (K = 6 ∨ K = 7 ∨ K = 11) by omega), if_pos rfl, if_pos (by omega), if_pos k, x1]
        simp only [bI]
        rw [if_pos k1, b3, x3]
        simp only []
        rw [okR1 z, if_neg (by omega), if_pos k3, x5]
        simp only []
        by_cases y : Y = 0
        · rw [okR1 y, if_neg (by omega)]
        · rw [okR0 y, if_pos (by simp)]
    · rw [if_neg c10]
      refine fin 1 600 (fun X w1 w3 w5 Y k1 k3 x1 x3 => ⟨fun z => ?_, fun z x5 => ?_⟩)
      · rw [eX12_readBookLine_189, if_pos (show K = 6 ∨ K = 7 ∨ K = 11 by omega), if_neg (by omega), if_pos k, x1]
        simp only [bI]
        rw [if_pos k1, b3, x3]
        simp only []
        rw [okR0 z, if_pos (by simp)]
      · rw [eX12_readBookLine_189, if_pos (show K = 6 ∨ K = 7 ∨ K = 11 by omega), if_neg (by omega), if_pos k, x1]
        simp only [bI]
        rw [if_pos k1, b3, x3]
        simp only []
        rw [okR1 z, if_neg (by omega), if_pos k3, x5]
        simp only []
        by_cases y : Y = 0
        · rw [okR1 y, if_neg (by omega)]
        · rw [okR0 y, if_pos (by simp)]
theorem l_bl137 (hN : NmM w m A) (h : RsM w m t n most S) (hs : S.1 = 0) (hc : 0 ≤ c ∧ c ≤ 39) (hK : 4 ≤ K ∧ K ≤ 11) (ha : gv w (m + 13) (4 * c + 1) = a) : ∃ w', Rn (Ex pro (d + 4)) mX12_readBookLine (137, [some (rV m), some (iV (K - 4)), some (iV (4 * c)), none], [], w) (some (iV (okR (stS t n most (blT t n most A S K a).1 59).1)), w') ∧ RsM w' m t n most (stS t n most (blT t n most A S K a).1 59) ∧ ((stS t n most (blT t n most A S K a).1 59).1 = 0 → gv w' (m + 13) (4 * c + 3) = (blT t n most A S K a).2) ∧ Mf w w' (fun r j => rdMm m r j ∨ (r = m + 13 ∧ j = 4 * c + 3)) := by
  have k := hN.1.1.1
  by_cases h8 : K = 8 ∨ K = 9
  · unfold blT
    rw [if_pos h8]
    obtain ⟨w1, a1, a2, a3, a4⟩ := o_other (d := d) h hs hN hc ha
    have k1 : kd w1 m = 10 := by rw [a4.kdE]; exact k
    have eq : ∀ r, (∀ (e : sg (Ex pro (d + 4)) mX12_readBookLine 2000 137 [some (rV m), some (iV (K - 4)), some (iV (4 * c)), none] [] w = if okR (stR t n most A S a).1.1 = 0 then some (.inr (some (iV 0), w1)) else if kd w1 m = 10 then bI (Ex pro (d + 4) 167 w1 [rV m]) (fun x4 w3 => if x4 = 0 then some (.inr (some (iV 0), w3)) else some (.inr (some (iV 1), w3))) else none), r) → r := fun r hr => hr (by
      rw [eX12_readBookLine_137]
      by_cases c8 : K = 8
      · rw [if_pos (by omega), if_pos k, a1]
        rfl
      · rw [if_neg (by omega), if_pos (by omega), if_pos k, a1]
        rfl)
    refine eq _ (fun e => ?_)
    by_cases z : (stR t n most A S a).1.1 = 0
    · obtain ⟨w3, e1, e2, e3⟩ := o_stS (d := d + 1) a2 z
      refine ⟨w3, Rn.ret ?_, e2, fun _ => by rw [e3.gvE (by omega)]; exact a3 z, (a4.trans e3).mono (fun r j z => by omega)⟩
      rw [e, okR1 z, if_neg (by omega), if_pos k1, e1]
      simp only [bI]
      by_cases y : (stS t n most (stR t n most A S a).1 59).1 = 0
      · rw [okR1 y, if_neg (by omega)]
      · rw [okR0 y, if_pos (by simp)]
    · rw [stS_f z]
      refine ⟨w1, Rn.ret ?_, a2, fun y => absurd y z, a4⟩
      rw [e, okR0 z, if_pos rfl]
  · obtain ⟨w', g1, g2, g3, g4⟩ := l_bl189 (d := d) (A := A) (a := a) hN.1 h hs hc hK h8
    refine ⟨w', Rn.cut ?_ g1, g2, g3, g4⟩
    rw [eX12_readBookLine_137, if_neg (by omega), if_neg (by omega)]
    by_cases c6 : K = 6
    · rw [if_pos (by omega), if_pos (by omega)]
    · rw [if_neg (by omega)]
      by_cases c7 : K = 7
      · rw [if_pos (by omega), if_pos (by omega)]
      · rw [if_neg (by omega)]
        by_cases c11 : K = 11
        · rw [if_pos (by omega), if_pos (by omega)]
        · rw [if_neg (by omega), if_neg (by omega)]
/-- the word that begins the line -/
abbrev bW (K k : Int) : Int := if 4 ≤ K ∧ K < 4 + k then K - 4 else -1
theorem l_blword {p : Int} (h : RdM w m t n most p) {res : Option sV × sW} : ∀ (f : Nat) (k : Int), k + f = 8 → 0 ≤ k → Rn (Ex pro (d + 4)) mX12_readBookLine (4, [some (rV m), some (iV (bW (tkW t n most p) 8)), some (iV 8), none], [], w) res → Rn (Ex pro (d + 4)) mX12_readBookLine (4, [some (rV m), some (iV (bW (tkW t n most p) k)), some (iV k), none], [], w) res
  | 0, k, hf, h0, g => by
    rw [show k = 8 by omega]
    exact g
  | f + 1, k, hf, h0, g => by
    refine Rn.cut ?_ (l_blword h f (k + 1) (by omega) (by omega) g)
    rw [eX12_readBookLine_4, if_neg (by omega), if_pos h.1.1.1, w32_eq (by omega) (by omega), o_isWord h (by omega)]
    simp only [bI, ite10]
    rw [w32_eq (by omega) (by omega)]
    by_cases y : isW t n most p (3 + k)
    · rw [if_pos y]
      have : bW (tkW t n most p) (k + 1) = k := by
        have y' : tkW t n most p = 3 + k + 1 := y
        show (if _ then _ else _) = k
        rw [if_pos (by omega)]
        omega
      rw [this]
    · rw [if_neg y]
      have : bW (tkW t n most p) (k + 1) = bW (tkW t n most p) k := by
        have y' : ¬ tkW t n most p = 3 + k + 1 := y
        show (if _ then _ else _) = (if _ then _ else _)
        by_cases z : 4 ≤ tkW t n most p ∧ tkW t n most p < 4 + k
        · rw [if_pos z, if_pos (by omega)]
        · rw [if_neg z, if_neg (by omega)]
      rw [this]
end MB
