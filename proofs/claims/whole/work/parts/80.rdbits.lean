/-! ===== one word of bits, one word of letters: the class ===== -/
/-- whether f bytes from p on are i or o -/
def okB (t : Int → Int) : Nat → Int → Int
  | 0, _ => 1
  | f + 1, p => if t p = 105 ∨ t p = 111 then okB t f (p + 1) else 0
/-- whether f bytes from p on are a .. h -/
def okT (t : Int → Int) : Nat → Int → Int
  | 0, _ => 1
  | f + 1, p => if 97 ≤ t p ∧ t p < 105 then okT t f (p + 1) else 0
theorem okB_01 (t : Int → Int) : ∀ (f : Nat) (p : Int), okB t f p = 0 ∨ okB t f p = 1
  | 0, _ => Or.inr rfl
  | f + 1, p => by
    unfold okB
    split
    · exact okB_01 t f (p + 1)
    · exact Or.inl rfl
theorem okT_01 (t : Int → Int) : ∀ (f : Nat) (p : Int), okT t f p = 0 ∨ okT t f p = 1
  | 0, _ => Or.inr rfl
  | f + 1, p => by
    unfold okT
    split
    · exact okT_01 t f (p + 1)
    · exact Or.inl rfl
/-- a byte's bit -/
def btO (t : Int → Int) : Int → Int := fun x => if t x = 105 then 1 else 0
/-- f letters of t from p on, put at the end one by one -/
def appT (t : Int → Int) (p : Int) : Nat → Int × (Int → Int) → Int × (Int → Int)
  | 0, T => T
  | f + 1, T => appT t (p + 1) f (insT T T.1 (t p - 97))
abbrev tkL (t : Int → Int) (n most p : Int) : Int := tkT t n most p - tkP t n most p
abbrev rmP (q r j : Int) : Prop := (r = 34 ∧ 3 ≤ j ∧ j ≤ 11) ∨ (q ≤ r ∧ r ≤ q + 16)
section RB
variable {d : Nat} {w : sW} {t : Int → Int} {n most p fa pl : Int}
theorem tk_len (k : tkK t n most p = 2) (h0 : 0 ≤ p) : (0 ≤ tkP t n most p ∧ tkT t n most p ≤ n) ∧ (1 ≤ tkL t n most p ∧ tkL t n most p ≤ 7) ∧ tkL t n most p = tkT t n most p - tkP t n most p := by
  refine ⟨?_, ?_, rfl⟩ <;> skip
  all_goals
    have a := tk_in (t := t) (n := n) (most := most) (p := p) (by omega)
    have b := tk_word k
    have c := b.2.1
    unfold tkF at c
    have e := b.2.2.2.1
    have g := b.2.2.2.2
    try unfold tkL
    rw [g]
    omega
theorem t_len (h : RdI w t n most p) (k : tkK t n most p = 2) (h0 : 0 ≤ p) : Ex pro (d + 1) 27 w [rV 34] = some (some (iV (tkL t n most p)), w) := by
  have k1 := h.1.1.1
  have a := tk_len k h0
  refine xX4_lettersOfWord (Rn.ret ?_)
  rw [eX4_lettersOfWord_0, if_pos k1, if_pos k1, h.2.2.2.1 (by omega), h.2.2.1, w32_eq (by omega) (by omega)]
theorem t_byte (h : RdI w t n most p) (k : tkK t n most p = 2) (h0 : 0 ≤ p) {i : Int} (hi : 0 ≤ i ∧ i < tkL t n most p) : Ex pro (d + 1) 28 w [rV 34, iV i] = some (some (iV (t (tkP t n most p + i))), w) := by
  have k1 := h.1.1.1
  have a := tk_len k h0
  have hn := h.1.2.2.1
  refine xX4_letterOfWord (Rn.ret ?_)
  rw [eX4_letterOfWord_0, if_pos k1, h.2.2.1, w32_eq (by omega) (by omega), if_neg (by omega), if_pos k1, h.1.1.2.2.1, if_pos (by omega), if_pos k1, h.1.1.2.1, h.1.2.1.1, h.1.2.1.2, if_pos ⟨rfl, by omega, by omega⟩, (h.1.2.2.2.2 _ (by omega) (by omega)).1]
theorem l_bitsY {q a : Int} {r : Option sV × sW} (h : RdI w t n most p) (k : tkK t n most p = 2) (h0 : 0 ≤ p) : ∀ (f : Nat) (i : Int), i + f = tkL t n most p → 0 ≤ i → okB t f (tkP t n most p + i) = 1 → Rn (Ex pro (d + 1)) mX8_readBits (8, [some (rV q), some (rV 34), some (rV a), some (iV (tkL t n most p)), some (iV (tkL t n most p)), none], [], w) r → Rn (Ex pro (d + 1)) mX8_readBits (8, [some (rV q), some (rV 34), some (rV a), some (iV (tkL t n most p)), some (iV i), none], [], w) r
  | 0, i, hf, hi, ok, g => by
    rw [show i = tkL t n most p by omega]; exact g
  | f + 1, i, hf, hi, ok, g => by
    have al := tk_len k h0
    unfold okB at ok
    by_cases c : t (tkP t n most p + i) = 105 ∨ t (tkP t n most p + i) = 111
    · rw [if_pos c] at ok
      refine Rn.cut ?_ (l_bitsY h k h0 f (i + 1) (by omega) (by omega) (by rw [show tkP t n most p + (i + 1) = tkP t n most p + i + 1 by omega]; exact ok) g)
      rw [eX8_readBits_8, if_pos (by omega), if_pos h.1.1.1, t_byte h k h0 ⟨hi, by omega⟩]
      simp only [bI]
      by_cases c1 : t (tkP t n most p + i) = 105
      · rw [if_pos c1, w32_eq (by omega) (by omega)]
      · rw [if_neg c1, if_pos (by omega), w32_eq (by omega) (by omega)]
    · rw [if_neg c] at ok
      exact absurd ok (by decide)
theorem l_bitsN {q a : Int} {w' : sW} (h : RdI w t n most p) (k : tkK t n most p = 2) (h0 : 0 ≤ p) (e : Ex pro (d + 1) 20 w [rV 34, iV 2] = some (none, w')) : ∀ (f : Nat) (i : Int), i + f = tkL t n most p → 0 ≤ i → okB t f (tkP t n most p + i) = 0 → Rn (Ex pro (d + 1)) mX8_readBits (8, [some (rV q), some (rV 34), some (rV a), some (iV (tkL t n most p)), some (iV i), none], [], w) (none, w')
  | 0, i, hf, hi, ok => by
    unfold okB at ok
    exact absurd ok (by decide)
  | f + 1, i, hf, hi, ok => by
    have al := tk_len k h0
    unfold okB at ok
    by_cases c : t (tkP t n most p + i) = 105 ∨ t (tkP t n most p + i) = 111
    · rw [if_pos c] at ok
      refine Rn.cut ?_ (l_bitsN (q := q) (a := a) h k h0 e f (i + 1) (by omega) (by omega) (by rw [show tkP t n most p + (i + 1) = tkP t n most p + i + 1 by omega]; exact ok))
      rw [eX8_readBits_8, if_pos (by omega), if_pos h.1.1.1, t_byte h k h0 ⟨hi, by omega⟩]
      simp only [bI]
      by_cases c1 : t (tkP t n most p + i) = 105
      · rw [if_pos c1, w32_eq (by omega) (by omega)]
      · rw [if_neg c1, if_pos (by omega), w32_eq (by omega) (by omega)]
    · refine Rn.ret ?_
      rw [eX8_readBits_8, if_pos (by omega), if_pos h.1.1.1, t_byte h k h0 ⟨hi, by omega⟩]
      simp only [bI]
      rw [if_neg (by omega), if_neg (by omega), if_pos h.1.1.1, e]
      simp only [bN]
theorem l_bitsIn {q a low : Int} (ha : 36 ≤ q ∧ q + 4 < a) (k : tkK t n most p = 2) (h0 : 0 ≤ p) : ∀ (f : Nat) (i : Int) (w : sW) (R : Rw), RdI w t n most p → FlI w fa pl → WordI w → kd w q = 8 → gv w q 4 = low → RowI w a R low → i + f = tkL t n most p → 0 ≤ i → R.1 + f ≤ 600 → ∃ w1 w', Rn (Ex pro (d + 2)) mX8_readBits (69, [some (rV q), some (rV 34), some (rV a), some (iV (tkL t n most p)), some (iV i), none], [], w) (none, w') ∧ Fr w w1 a (a + 2) ∧ RowI w1 a (appR (btO t) low (tkP t n most p + i) f R) low ∧ RdI w' t n most (tkT t n most p) ∧ FlI w' fa pl ∧ WordI w' ∧ Mf w1 w' rdC
  | 0, i, w, R, h, hf, hW, hq, hl, hR, hi, hi0, hn => by
    obtain ⟨w', a1, a2, a3, a4, a5⟩ := t_next (d := d) hW h hf (by omega) h0
    refine ⟨w, w', Rn.ret ?_, Fr.refl _ _ _, hR, a2, a3, a4, a5⟩
    rw [eX8_readBits_69, if_neg (by omega), if_pos h.1.1.1, a1]
    simp only [bN]
  | f + 1, i, w, R, h, hf, hW, hq, hl, hR, hi, hi0, hn => by
    have al := tk_len k h0
    have hv : btO t (tkP t n most p + i) = 0 ∨ btO t (tkP t n most p + i) = 1 := by
      unfold btO
      split
      · exact Or.inr rfl
      · exact Or.inl rfl
    obtain ⟨w1, e1, e2, e3⟩ := r_insert (d := d) hR (by omega) (i := R.1) (v := btO t (tkP t n most p + i)) ⟨hR.2.1.2.1.1, by omega⟩ hv
    have m1 := e2.mf
    have R1 : RdI w1 t n most p := h.mf m1 (fun j j0 j1 => by omega) (fun j => by omega)
    have F1 : FlI w1 fa pl := ⟨by rw [m1.gvE (by omega)]; exact hf.1, by rw [m1.gvE (by omega)]; exact hf.2⟩
    have W1 : WordI w1 := hW.eq (m1.eqO (fun r j r0 r1 => by omega))
    obtain ⟨w2, w', g1, g2, g3, g4, g5, g6, g7⟩ := l_bitsIn ha k h0 f (i + 1) w1 _ R1 F1 W1 (by rw [m1.kdE]; exact hq) (by rw [m1.gvE (by omega)]; exact hl) e3 (by omega) (by omega) (by show R.1 + 1 + (f : Int) ≤ 600; omega)
    rw [show tkP t n most p + (i + 1) = tkP t n most p + i + 1 by omega] at g3
    refine ⟨w2, w', Rn.cut ?_ g1, e2.trans g2, g3, g4, g5, g6, g7⟩
    have k5 := hR.1.1.1
    rw [eX8_readBits_69, if_pos (by omega), if_pos k5, if_pos h.1.1.1, t_byte h k h0 ⟨hi0, by omega⟩]
    simp only [bI]
    rw [hR.1.2.1, hl]
    by_cases c : t (tkP t n most p + i) = 105
    · rw [show btO t (tkP t n most p + i) = 1 by unfold btO; rw [if_pos c]] at e1
      rw [if_pos c, if_pos hq, if_pos k5, e1]
      simp only [bN]
      rw [w32_eq (by omega) (by omega)]
    · rw [show btO t (tkP t n most p + i) = 0 by unfold btO; rw [if_neg c]] at e1
      rw [if_neg c, if_pos hq, if_pos k5, e1]
      simp only [bN]
      rw [w32_eq (by omega) (by omega)]
theorem StI.mf {w w' : sW} {q : Int} {A : Rm} {P : Int → Int → Prop} (h : StI w q A) (g : Mf w w' P) (hp : ∀ r j, q ≤ r → r ≤ q + 16 → ¬ P r j) : StI w' q A := h.eq (g.eqO hp)
/-- one word of bits, all well -/
theorem t_bitsY {q r : Int} {A : Rm} (hW : WordI w) (h : RdI w t n most p) (hf : FlI w fa pl) (h0 : 0 ≤ p) (hq : q = 36 ∨ q = 53) (hS : StI w q A) (hr : 0 ≤ r ∧ r < A.1) (k : tkK t n most p = 2) (ok : okB t (tkL t n most p).toNat (tkP t n most p) = 1) (hn : (A.2.2.2.1 r).1 + tkL t n most p ≤ 600) : ∃ w', Ex pro (d + 3) 83 w [rV q, rV 34, rV (q + 5 + 3 * r)] = some (none, w') ∧ RdI w' t n most (tkT t n most p) ∧ FlI w' fa pl ∧ WordI w' ∧ StI w' q (setRow A r (appR (btO t) A.2.1 (tkP t n most p) (tkL t n most p).toNat (A.2.2.2.1 r))) ∧ Mf w w' (rmP q) ∧ gv w' q 5 = gv w q 5 := by
  have al := tk_len k h0
  have hR := hS.2.2.2.2.2.1 r hr.1 hr.2
  have hc := hS.2.2.1
  have n0 := hR.2.1.2.1.1
  obtain ⟨w1, w', g1, g2, g3, g4, g5, g6, g7⟩ := l_bitsIn (d := d) (q := q) (a := q + 5 + 3 * r) (by omega) k h0 (tkL t n most p).toNat 0 w (A.2.2.2.1 r) h hf hW hS.1.1.1 hS.2.1.2 hR (by omega) (by omega) (by omega)
  rw [show tkP t n most p + 0 = tkP t n most p by omega] at g3
  have S1 := hS.row hr g2 g3
  refine ⟨w', xX8_readBits (Rn.cut ?_ (l_bitsY (d := d + 1) (q := q) (a := q + 5 + 3 * r) h k h0 (tkL t n most p).toNat 0 (by omega) (by omega) (by rw [show tkP t n most p + 0 = tkP t n most p by omega]; exact ok) (Rn.cut ?_ g1))), g4, g5, g6, S1.mf g7 (fun r j r0 r1 => by omega), (g2.mf.trans g7).mono (fun r j z => by omega), by rw [g7.gvE (by omega), g2.mf.gvE (by omega)]⟩
  · rw [eX8_readBits_0, if_pos h.1.1.1, t_len h k h0]
    simp only [bI]
  · rw [eX8_readBits_8, if_neg (by omega), if_pos hR.1.1.1, hR.1.2.1, w32_eq (by omega) (by omega), if_neg (by omega)]
/-- one word of bits, a fault -/
theorem t_bitsN {q r : Int} {A : Rm} (hW : WordI w) (h : RdI w t n most p) (hf : FlI w 0 pl) (h0 : 0 ≤ p) (hS : StI w q A) (hr : 0 ≤ r ∧ r < A.1) (k : tkK t n most p = 2) (no : ¬ (okB t (tkL t n most p).toNat (tkP t n most p) = 1 ∧ (A.2.2.2.1 r).1 + tkL t n most p ≤ 600)) : ∃ w', Ex pro (d + 3) 83 w [rV q, rV 34, rV (q + 5 + 3 * r)] = some (none, w') ∧ RdI w' t n most p ∧ FlI w' (if okB t (tkL t n most p).toNat (tkP t n most p) = 1 then 4 else 2) (tkP t n most p) ∧ WordI w' ∧ Mf w w' rdC' := by
  have al := tk_len k h0
  have hR := hS.2.2.2.2.2.1 r hr.1 hr.2
  have n0 := hR.2.1.2.1
  by_cases c : okB t (tkL t n most p).toNat (tkP t n most p) = 1
  · rw [if_pos c]
    obtain ⟨w', a1, a2, a3, a4⟩ := t_fail (d := d + 1) h hf 4
    have big : ¬ (A.2.2.2.1 r).1 + tkL t n most p ≤ 600 := fun z => no ⟨c, z⟩
    clear no
    refine ⟨w', xX8_readBits (Rn.cut ?_ (l_bitsY (d := d + 1) (q := q) (a := q + 5 + 3 * r) h k h0 (tkL t n most p).toNat 0 (by omega) (by omega) (by rw [show tkP t n most p + 0 = tkP t n most p by omega]; exact c) (Rn.ret ?_))), a2, a3, hW.mf34 a4, a4⟩
    · rw [eX8_readBits_0, if_pos h.1.1.1, t_len h k h0]
      simp only [bI]
    · rw [eX8_readBits_8, if_neg (by omega), if_pos hR.1.1.1, hR.1.2.1, w32_eq (by omega) (by omega), if_pos (by omega), if_pos h.1.1.1, a1]
      simp only [bN]
  · rw [if_neg c]
    clear no
    obtain ⟨w', a1, a2, a3, a4⟩ := t_fail (d := d + 1) h hf 2
    have c0 := (okB_01 t (tkL t n most p).toNat (tkP t n most p)).resolve_right c
    refine ⟨w', xX8_readBits (Rn.cut ?_ (l_bitsN (d := d + 1) (q := q) (a := q + 5 + 3 * r) h k h0 a1 (tkL t n most p).toNat 0 (by omega) (by omega) (by rw [show tkP t n most p + 0 = tkP t n most p by omega]; exact c0))), a2, a3, hW.mf34 a4, a4⟩
    rw [eX8_readBits_0, if_pos h.1.1.1, t_len h k h0]
    simp only [bI]
end RB
