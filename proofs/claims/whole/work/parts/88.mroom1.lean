/-! ===== words of bits and letters, names: the reference ===== -/
theorem nmb_nm {N B : Int → Int} {v v' : Int} (hv : nmR v v') : ∀ (f : Nat) (r : Int), (∀ x, r ≤ x → x < r + f → nmR (N x) (B x)) → nmb N v r f = nmb B v' r f
  | 0, r, h => rfl
  | f + 1, r, h => by
    simp only [nmb]
    have e := (h r (by omega) (by omega)).iff hv
    have g := nmb_nm hv f (r + 1) (fun x x0 x1 => h x (by omega) (by omega))
    by_cases c : N r = v
    · rw [if_pos c, if_pos (e.mp c)]
    · rw [if_neg c, if_neg (fun z => c (e.mpr z)), g]
theorem appR_end (u : Int → Int) (low : Int) : ∀ (s : Nat) (p : Int) (R : Rw), appR u low p (s + 1) R = insR (appR u low p s R) (appR u low p s R).1 (u (p + s)) low
  | 0, p, R => by
    simp only [appR]
    rw [show p + ((0 : Nat) : Int) = p by omega]
  | s + 1, p, R => by
    have g := appR_end u low s (p + 1) (insR R R.1 (u p) low)
    rw [show p + 1 + (s : Int) = p + ((s + 1 : Nat) : Int) by omega] at g
    exact g
theorem appR_cg {u u' : Int → Int} (low : Int) : ∀ (s : Nat) (p : Int) (R : Rw), (∀ i, p ≤ i → i < p + s → u i = u' i) → appR u low p s R = appR u' low p s R
  | 0, p, R, h => rfl
  | s + 1, p, R, h => by
    simp only [appR]
    rw [h p (by omega) (by omega)]
    exact appR_cg low s (p + 1) _ (fun i i0 i1 => h i (by omega) (by omega))
/-- the row R is told by the numbers X -/
def RX (X : Int → Int) (r low : Int) (R : Rw) : Prop := ∃ s : Nat, X (2 + r) = s ∧ s ≤ 600 ∧ R = appR (fun i => X (207 + 600 * r + i)) low 0 s Z0 ∧ ∀ i, 0 ≤ i → i < (s : Int) → X (207 + 600 * r + i) = 0 ∨ X (207 + 600 * r + i) = 1
theorem RX.n {X : Int → Int} {r low : Int} {R : Rw} (h : RX X r low R) : X (2 + r) = R.1 ∧ 0 ≤ R.1 ∧ R.1 ≤ 600 := by
  obtain ⟨s, h1, h2, h3, h4⟩ := h
  have := appR_n (low := low) (fun i => X (207 + 600 * r + i)) s 0 Z0
  rw [h3, this, h1]
  have : Z0.1 = 0 := rfl
  omega
theorem RX.cg {X Y : Int → Int} {r low : Int} {R : Rw} (h : RX X r low R) (e : Y (2 + r) = X (2 + r)) (g : ∀ i, 0 ≤ i → i < 600 → Y (207 + 600 * r + i) = X (207 + 600 * r + i)) : RX Y r low R := by
  obtain ⟨s, h1, h2, h3, h4⟩ := h
  refine ⟨s, e.trans h1, h2, h3.trans (appR_cg low s 0 Z0 (fun i i0 i1 => (g i i0 (by omega)).symm)), fun i i0 i1 => ?_⟩
  rw [g i i0 (by omega)]
  exact h4 i i0 i1
theorem RX.zero {X : Int → Int} {r low : Int} (h : X (2 + r) = 0) : RX X r low Z0 := ⟨0, h, by omega, rfl, fun i i0 i1 => by omega⟩
/-- a bit more -/
theorem RX.app {X Y : Int → Int} {r low v : Int} {R : Rw} (h : RX X r low R) (hn : R.1 < 600) (hr : 0 ≤ r ∧ r < 4) (hv : v = 0 ∨ v = 1) (e : Y (2 + r) = R.1 + 1) (e1 : Y (207 + 600 * r + R.1) = v) (g : ∀ i, 0 ≤ i → i < R.1 → Y (207 + 600 * r + i) = X (207 + 600 * r + i)) : RX Y r low (insR R R.1 v low) := by
  have hx := h.n
  obtain ⟨s, h1, h2, h3, h4⟩ := h
  have sn : (s : Int) = R.1 := by omega
  refine ⟨s + 1, by omega, by omega, ?_, fun i i0 i1 => ?_⟩
  · rw [appR_end]
    have c := appR_cg (u := fun i => Y (207 + 600 * r + i)) (u' := fun i => X (207 + 600 * r + i)) low s 0 Z0 (fun i i0 i1 => g i i0 (by omega))
    rw [c, ← h3]
    have : Y (207 + 600 * r + (0 + (s : Int))) = v := by rw [show (0 : Int) + s = R.1 by omega]; exact e1
    rw [this]
  · by_cases z : i = R.1
    · rw [z, e1]; exact hv
    · rw [g i i0 (by omega)]; exact h4 i i0 (by omega)
section MB
variable {d : Nat} {w : sW} {m : Int} {t : Int → Int} {n most p : Int}
theorem l_areBits (h : RdM w m t n most p) (k : tkK t n most p = 2) : ∀ (f : Nat) (x : Int), x + f = tkT t n most p → 0 ≤ x → tkT t n most p ≤ n → Rn (Ex pro d) mX12_areBits (5, [some (rV m), some (iV x)], [], w) (some (iV (okB t f x)), w)
  | 0, x, hx, h0, hn => by
    refine Rn.ret ?_
    rw [eX12_areBits_5, if_pos h.1.1.1, h.2.2.2.1 (by omega), if_neg (by omega)]
    rfl
  | f + 1, x, hx, h0, hn => by
    have k10 := h.1.1.1
    have n94 := h.1.2.2.1
    have bt := (h.1.2.2.2.2 x h0 (by omega)).1
    have inb : kd w (m + 1) = 20 ∧ 0 ≤ x ∧ x < ln w (m + 1) := ⟨h.1.2.1.1, h0, by rw [h.1.2.1.2]; omega⟩
    unfold okB
    by_cases c : t x = 105 ∨ t x = 111
    · rw [if_pos c]
      refine Rn.cut ?_ (l_areBits h k f (x + 1) (by omega) (by omega) hn)
      rw [eX12_areBits_5, if_pos k10, h.2.2.2.1 (by omega), if_pos (by omega), if_pos k10, h.1.1.2.1, if_pos inb, bt]
      by_cases c1 : t x = 105
      · rw [if_pos c1, w32_eq (by omega) (by omega)]
      · rw [if_neg c1, if_pos k10, if_pos inb, if_pos (by omega), w32_eq (by omega) (by omega)]
    · rw [if_neg c]
      refine Rn.ret ?_
      rw [eX12_areBits_5, if_pos k10, h.2.2.2.1 (by omega), if_pos (by omega), if_pos k10, h.1.1.2.1, if_pos inb, bt, if_neg (by omega), if_pos k10, if_pos inb, if_neg (by omega)]
theorem o_areBits (h : RdM w m t n most p) (k : tkK t n most p = 2) (h0 : 0 ≤ p) : Ex pro (d + 1) 174 w [rV m] = some (some (iV (okB t (tkL t n most p).toNat (tkP t n most p))), w) := by
  have al := tk_len k h0
  refine xX12_areBits (Rn.cut ?_ (l_areBits h k (tkL t n most p).toNat (tkP t n most p) (by omega) (by omega) (by omega)))
  rw [eX12_areBits_0, if_pos h.1.1.1, h.2.2.1]
theorem l_areOf (h : RdM w m t n most p) (k : tkK t n most p = 2) : ∀ (f : Nat) (x : Int), x + f = tkT t n most p → 0 ≤ x → tkT t n most p ≤ n → (∀ i, x ≤ i → i < tkT t n most p → 97 ≤ t i) → Rn (Ex pro d) mX12_areOf (5, [some (rV m), some (iV 104), some (iV x)], [], w) (some (iV (okT t f x)), w)
  | 0, x, hx, h0, hn, ha => by
    refine Rn.ret ?_
    rw [eX12_areOf_5, if_pos h.1.1.1, h.2.2.2.1 (by omega), if_neg (by omega)]
    rfl
  | f + 1, x, hx, h0, hn, ha => by
    have k10 := h.1.1.1
    have n94 := h.1.2.2.1
    have bt := (h.1.2.2.2.2 x h0 (by omega)).1
    have a97 := ha x (by omega) (by omega)
    have inb : kd w (m + 1) = 20 ∧ 0 ≤ x ∧ x < ln w (m + 1) := ⟨h.1.2.1.1, h0, by rw [h.1.2.1.2]; omega⟩
    unfold okT
    by_cases c : 97 ≤ t x ∧ t x < 105
    · rw [if_pos c]
      refine Rn.cut ?_ (l_areOf h k f (x + 1) (by omega) (by omega) hn (fun i i0 i1 => ha i (by omega) i1))
      rw [eX12_areOf_5, if_pos k10, h.2.2.2.1 (by omega), if_pos (by omega), if_pos k10, h.1.1.2.1, if_pos inb, bt, if_neg (by omega), w32_eq (by omega) (by omega)]
    · rw [if_neg c]
      refine Rn.ret ?_
      rw [eX12_areOf_5, if_pos k10, h.2.2.2.1 (by omega), if_pos (by omega), if_pos k10, h.1.1.2.1, if_pos inb, bt, if_pos (by omega)]
theorem tk_97 (k : tkK t n most p = 2) {i : Int} (h0 : tkP t n most p ≤ i) (h1 : i < tkT t n most p) : 97 ≤ t i := by
  have b := tk_word k
  have c := b.1 (i - tkA t n most p) (by rw [b.2.2.2.2] at h0; omega) (by unfold tkF; rw [b.2.2.2.2] at h0; have := b.2.2.2.1; omega)
  rw [show tkA t n most p + (i - tkA t n most p) = i by omega] at c
  exact c.1
theorem o_areOf (h : RdM w m t n most p) (k : tkK t n most p = 2) (h0 : 0 ≤ p) : Ex pro (d + 1) 173 w [rV m, iV 104] = some (some (iV (okT t (tkL t n most p).toNat (tkP t n most p))), w) := by
  have al := tk_len k h0
  refine xX12_areOf (Rn.cut ?_ (l_areOf h k (tkL t n most p).toNat (tkP t n most p) (by omega) (by omega) (by omega) (fun i i0 i1 => tk_97 k i0 i1)))
  rw [eX12_areOf_0, if_pos h.1.1.1, h.2.2.1]
theorem l_findIn {a c v : Int} (ha : kd w a = 22 ∧ ln w a = 4) (hc : c ≤ 4) : ∀ (f : Nat) (x : Int), x + f = c → 0 ≤ x → Rn (Ex pro d) mX12_findIn (3, [some (rV a), some (iV c), some (lV v), none, some (iV x)], [], w) (some (iV (nmb (gv w a) v x f)), w)
  | 0, x, hx, h0 => by
    refine Rn.ret ?_
    rw [eX12_findIn_3, if_neg (by omega)]
    rfl
  | f + 1, x, hx, h0 => by
    simp only [nmb]
    by_cases z : gv w a x = v
    · rw [if_pos z]
      refine Rn.ret ?_
      rw [eX12_findIn_3, if_pos (by omega), if_pos ⟨ha.1, h0, by omega⟩, if_pos (cmp_eq.mpr z)]
    · rw [if_neg z]
      refine Rn.cut ?_ (l_findIn ha hc f (x + 1) (by omega) (by omega))
      rw [eX12_findIn_3, if_pos (by omega), if_pos ⟨ha.1, h0, by omega⟩, if_neg (fun y => z (cmp_eq.mp y)), w32_eq (by omega) (by omega)]
theorem o_findIn {a c v : Int} (ha : kd w a = 22 ∧ ln w a = 4) (hc : 0 ≤ c ∧ c ≤ 4) : Ex pro (d + 1) 171 w [rV a, iV c, lV v] = some (some (iV (nmb (gv w a) v 0 c.toNat)), w) := by
  refine xX12_findIn (Rn.cut ?_ (l_findIn ha hc.2 c.toNat 0 (by omega) (by omega)))
  rw [eX12_findIn_0]
end MB
