/-! ===== one word of letters: the class ===== -/
section RL
variable {d : Nat} {w : sW} {t : Int → Int} {n most p fa pl : Int}
theorem l_letsY {q : Int} {r : Option sV × sW} (h : RdI w t n most p) (k : tkK t n most p = 2) (h0 : 0 ≤ p) : ∀ (f : Nat) (i : Int), i + f = tkL t n most p → 0 ≤ i → okT t f (tkP t n most p + i) = 1 → Rn (Ex pro (d + 1)) mX8_readLettersOfWord (7, [some (rV q), some (rV 34), some (iV (tkL t n most p)), some (iV (tkL t n most p))], [], w) r → Rn (Ex pro (d + 1)) mX8_readLettersOfWord (7, [some (rV q), some (rV 34), some (iV (tkL t n most p)), some (iV i)], [], w) r
  | 0, i, hf, hi, ok, g => by
    rw [show i = tkL t n most p by omega]; exact g
  | f + 1, i, hf, hi, ok, g => by
    have al := tk_len k h0
    have bt := h.1.2.2.2.2 (tkP t n most p + i) (by omega) (by have := h.1.2.2.1; omega)
    unfold okT at ok
    by_cases c : 97 ≤ t (tkP t n most p + i) ∧ t (tkP t n most p + i) < 105
    · rw [if_pos c] at ok
      refine Rn.cut ?_ (l_letsY (q := q) h k h0 f (i + 1) (by omega) (by omega) (by rw [show tkP t n most p + (i + 1) = tkP t n most p + i + 1 by omega]; exact ok) g)
      rw [eX8_readLettersOfWord_7, if_pos (by omega), if_pos h.1.1.1, t_byte h k h0 ⟨hi, by omega⟩]
      simp only [bI]
      rw [p_isLetter, w32_eq (by omega) (by omega)]
      simp only [ite10]
      rw [if_pos (by omega), w32_eq (by omega) (by omega)]
    · rw [if_neg c] at ok
      exact absurd ok (by decide)
theorem l_letsN {q : Int} {w' : sW} (h : RdI w t n most p) (k : tkK t n most p = 2) (h0 : 0 ≤ p) (e : Ex pro (d + 1) 20 w [rV 34, iV 2] = some (none, w')) : ∀ (f : Nat) (i : Int), i + f = tkL t n most p → 0 ≤ i → okT t f (tkP t n most p + i) = 0 → Rn (Ex pro (d + 1)) mX8_readLettersOfWord (7, [some (rV q), some (rV 34), some (iV (tkL t n most p)), some (iV i)], [], w) (none, w')
  | 0, i, hf, hi, ok => by
    unfold okT at ok
    exact absurd ok (by decide)
  | f + 1, i, hf, hi, ok => by
    have al := tk_len k h0
    have bt := h.1.2.2.2.2 (tkP t n most p + i) (by omega) (by have := h.1.2.2.1; omega)
    unfold okT at ok
    by_cases c : 97 ≤ t (tkP t n most p + i) ∧ t (tkP t n most p + i) < 105
    · rw [if_pos c] at ok
      refine Rn.cut ?_ (l_letsN (q := q) h k h0 e f (i + 1) (by omega) (by omega) (by rw [show tkP t n most p + (i + 1) = tkP t n most p + i + 1 by omega]; exact ok))
      rw [eX8_readLettersOfWord_7, if_pos (by omega), if_pos h.1.1.1, t_byte h k h0 ⟨hi, by omega⟩]
      simp only [bI]
      rw [p_isLetter, w32_eq (by omega) (by omega)]
      simp only [ite10]
      rw [if_pos (by omega), w32_eq (by omega) (by omega)]
    · refine Rn.ret ?_
      rw [eX8_readLettersOfWord_7, if_pos (by omega), if_pos h.1.1.1, t_byte h k h0 ⟨hi, by omega⟩]
      simp only [bI]
      rw [p_isLetter, w32_eq (by omega) (by omega)]
      simp only [ite10]
      rw [if_neg (by omega), if_pos h.1.1.1, e]
      simp only [bN]
theorem okT_lt {t : Int → Int} : ∀ (f : Nat) (p i : Int), okT t f p = 1 → 0 ≤ i → i < f → 97 ≤ t (p + i) ∧ t (p + i) < 105
  | 0, p, i, _, h0, h1 => by omega
  | f + 1, p, i, ok, h0, h1 => by
    unfold okT at ok
    by_cases c : 97 ≤ t p ∧ t p < 105
    · rw [if_pos c] at ok
      by_cases z : i = 0
      · rw [z, show p + 0 = p by omega]; exact c
      · have := okT_lt f (p + 1) (i - 1) ok (by omega) (by omega)
        rw [show p + 1 + (i - 1) = p + i by omega] at this
        exact this
    · rw [if_neg c] at ok
      exact absurd ok (by decide)
theorem l_letsIn {q : Int} (ha : 36 ≤ q) (k : tkK t n most p = 2) (h0 : 0 ≤ p) (ok : okT t (tkL t n most p).toNat (tkP t n most p) = 1) : ∀ (f : Nat) (i : Int) (w : sW) (T : Int × (Int → Int)), RdI w t n most p → FlI w fa pl → WordI w → kd w q = 8 → gv w q 2 = q + 3 → ScI w (q + 3) T → i + f = tkL t n most p → 0 ≤ i → T.1 + f ≤ 200 → ∃ w1 w', Rn (Ex pro (d + 2)) mX8_readLettersOfWord (61, [some (rV q), some (rV 34), some (iV (tkL t n most p)), some (iV i)], [], w) (none, w') ∧ Fr w w1 (q + 3) (q + 4) ∧ ScI w1 (q + 3) (appT t (tkP t n most p + i) f T) ∧ RdI w' t n most (tkT t n most p) ∧ FlI w' fa pl ∧ WordI w' ∧ Mf w1 w' rdC
  | 0, i, w, T, h, hf, hW, hq, hl, hR, hi, hi0, hn => by
    obtain ⟨w', a1, a2, a3, a4, a5⟩ := t_next (d := d) hW h hf (by omega) h0
    refine ⟨w, w', Rn.ret ?_, Fr.refl _ _ _, hR, a2, a3, a4, a5⟩
    rw [eX8_readLettersOfWord_61, if_neg (by omega), if_pos h.1.1.1, a1]
    simp only [bN]
  | f + 1, i, w, T, h, hf, hW, hq, hl, hR, hi, hi0, hn => by
    have al := tk_len k h0
    have bt := okT_lt _ _ i ok hi0 (by omega)
    have hT := hR.2.2.1
    obtain ⟨w1, e1, e2, e3⟩ := c_insert (d := d + 1) hR (by omega) (i := T.1) (v := t (tkP t n most p + i) - 97) (by omega) (by omega)
    have e2' : Fr w w1 (q + 3) (q + 4) := by rw [show q + 3 + 1 = q + 4 by omega] at e2; exact e2
    have m1 := e2'.mf
    have R1 : RdI w1 t n most p := h.mf m1 (fun j j0 j1 => by omega) (fun j => by omega)
    have F1 : FlI w1 fa pl := ⟨by rw [m1.gvE (by omega)]; exact hf.1, by rw [m1.gvE (by omega)]; exact hf.2⟩
    have W1 : WordI w1 := hW.eq (m1.eqO (fun r j r0 r1 => by omega))
    obtain ⟨w2, w', g1, g2, g3, g4, g5, g6, g7⟩ := l_letsIn ha k h0 ok f (i + 1) w1 _ R1 F1 W1 (by rw [m1.kdE]; exact hq) (by rw [m1.gvE (by omega)]; exact hl) e3 (by omega) (by omega) (by show T.1 + 1 + (f : Int) ≤ 200; omega)
    rw [show tkP t n most p + (i + 1) = tkP t n most p + i + 1 by omega] at g3
    refine ⟨w2, w', Rn.cut ?_ g1, e2'.trans g2, g3, g4, g5, g6, g7⟩
    have k6 := hR.1.1
    rw [eX8_readLettersOfWord_61, if_pos (by omega), if_pos hq, if_pos hq, hl, if_pos k6, if_pos h.1.1.1, t_byte h k h0 ⟨hi0, by omega⟩]
    simp only [bI]
    rw [if_pos k6, hR.2.1, w32_eq (by omega) (by omega), e1]
    simp only [bN]
    rw [w32_eq (by omega) (by omega)]
theorem t_letsY {q : Int} {A : Rm} (hW : WordI w) (h : RdI w t n most p) (hf : FlI w fa pl) (h0 : 0 ≤ p) (hq : q = 36 ∨ q = 53) (hS : StI w q A) (k : tkK t n most p = 2) (ok : okT t (tkL t n most p).toNat (tkP t n most p) = 1) (hn : A.2.2.2.2.1 + tkL t n most p ≤ 200) : ∃ w', Ex pro (d + 3) 85 w [rV q, rV 34] = some (none, w') ∧ RdI w' t n most (tkT t n most p) ∧ FlI w' fa pl ∧ WordI w' ∧ StI w' q (setLet A (appT t (tkP t n most p) (tkL t n most p).toNat A.2.2.2.2)) ∧ Mf w w' (rmP q) ∧ gv w' q 5 = gv w q 5 := by
  have al := tk_len k h0
  have hT := hS.2.2.2.2.2.2
  have n0 := hT.2.2.1
  obtain ⟨w1, w', g1, g2, g3, g4, g5, g6, g7⟩ := l_letsIn (d := d) (q := q) (by omega) k h0 ok (tkL t n most p).toNat 0 w A.2.2.2.2 h hf hW hS.1.1.1 hS.1.1.2.2.2 hT (by omega) (by omega) (by omega)
  rw [show tkP t n most p + 0 = tkP t n most p by omega] at g3
  have S1 := hS.let g2 g3
  refine ⟨w', xX8_readLettersOfWord (Rn.cut ?_ (l_letsY (d := d + 1) (q := q) h k h0 (tkL t n most p).toNat 0 (by omega) (by omega) (by rw [show tkP t n most p + 0 = tkP t n most p by omega]; exact ok) (Rn.cut ?_ g1))), g4, g5, g6, S1.mf g7 (fun r j r0 r1 => by omega), (g2.mf.trans g7).mono (fun r j z => by omega), by rw [g7.gvE (by omega), g2.mf.gvE (by omega)]⟩
  · rw [eX8_readLettersOfWord_0, if_pos h.1.1.1, t_len h k h0]
    simp only [bI]
  · rw [eX8_readLettersOfWord_7, if_neg (by omega), if_pos hS.1.1.1, hS.1.1.2.2.2, if_pos hT.1.1, hT.2.1, w32_eq (by omega) (by omega), if_neg (by omega)]
theorem t_letsN {q : Int} {A : Rm} (hW : WordI w) (h : RdI w t n most p) (hf : FlI w 0 pl) (h0 : 0 ≤ p) (hS : StI w q A) (k : tkK t n most p = 2) (no : ¬ (okT t (tkL t n most p).toNat (tkP t n most p) = 1 ∧ A.2.2.2.2.1 + tkL t n most p ≤ 200)) : ∃ w', Ex pro (d + 3) 85 w [rV q, rV 34] = some (none, w') ∧ RdI w' t n most p ∧ FlI w' (if okT t (tkL t n most p).toNat (tkP t n most p) = 1 then 4 else 2) (tkP t n most p) ∧ WordI w' ∧ Mf w w' rdC' := by
  have al := tk_len k h0
  have hT := hS.2.2.2.2.2.2
  have n0 := hT.2.2.1
  by_cases c : okT t (tkL t n most p).toNat (tkP t n most p) = 1
  · rw [if_pos c]
    obtain ⟨w', a1, a2, a3, a4⟩ := t_fail (d := d + 1) h hf 4
    have big : ¬ A.2.2.2.2.1 + tkL t n most p ≤ 200 := fun z => no ⟨c, z⟩
    clear no
    refine ⟨w', xX8_readLettersOfWord (Rn.cut ?_ (l_letsY (d := d + 1) (q := q) h k h0 (tkL t n most p).toNat 0 (by omega) (by omega) (by rw [show tkP t n most p + 0 = tkP t n most p by omega]; exact c) (Rn.ret ?_))), a2, a3, hW.mf34 a4, a4⟩
    · rw [eX8_readLettersOfWord_0, if_pos h.1.1.1, t_len h k h0]
      simp only [bI]
    · rw [eX8_readLettersOfWord_7, if_neg (by omega), if_pos hS.1.1.1, hS.1.1.2.2.2, if_pos hT.1.1, hT.2.1, w32_eq (by omega) (by omega), if_pos (by omega), if_pos h.1.1.1, a1]
      simp only [bN]
  · rw [if_neg c]
    clear no
    obtain ⟨w', a1, a2, a3, a4⟩ := t_fail (d := d + 1) h hf 2
    have c0 := (okT_01 t (tkL t n most p).toNat (tkP t n most p)).resolve_right c
    refine ⟨w', xX8_readLettersOfWord (Rn.cut ?_ (l_letsN (d := d + 1) (q := q) h k h0 a1 (tkL t n most p).toNat 0 (by omega) (by omega) (by rw [show tkP t n most p + 0 = tkP t n most p by omega]; exact c0))), a2, a3, hW.mf34 a4, a4⟩
    rw [eX8_readLettersOfWord_0, if_pos h.1.1.1, t_len h k h0]
    simp only [bI]
end RL
