/-! ===== rows of the class: questions ===== -/
theorem w32_eq {x : Int} (h1 : -2147483648 ≤ x) (h2 : x < 2147483648) : w32 x = x := by unfold w32; omega
theorem Rn.go {C : sC} {M : sM} {pc : Nat} {ls : sL} {st : List sV} {w : sW} {r : Option sV × sW} {o : Option sO} (h : sg C M 2000 pc ls st w = o) (k : match o with | some (.inr r') => r' = r | some (.inl c') => Rn C M c' r | none => False) : Rn C M (pc, ls, st, w) r := by
  match o, h, k with
  | some (.inr r'), h, k => exact Rn.ret (by rw [h, k])
  | some (.inl c'), h, k => exact Rn.cut h k
/-- a row's cells: the object at a, its bits at a + 1, its leaves at a + 2 -/
def RowSh (w : sW) (a : Int) : Prop := kd w a = 5 ∧ gv w a 0 = a + 1 ∧ gv w a 1 = a + 2 ∧ kd w (a + 1) = 21 ∧ ln w (a + 1) = 600 ∧ kd w (a + 2) = 20 ∧ ln w (a + 2) = 152 ∧ 32 ≤ a
/-- n bits b, k leaves of the sizes l -/
def RowAt (w : sW) (a n : Int) (b : Int → Int) (k : Int) (l : Int → Int) : Prop := RowSh w a ∧ gv w a 2 = n ∧ gv w a 3 = k ∧ (0 ≤ n ∧ n ≤ 600) ∧ (0 ≤ k ∧ k ≤ 150) ∧ (∀ i, 0 ≤ i → i < n → gv w (a + 1) i = b i) ∧ ∀ j, 0 ≤ j → j < k → gv w (a + 2) j = l j
section RQ
variable {d : Nat} {w : sW} {a n k : Int} {b l : Int → Int}
theorem s_hasGap (h : RowAt w a n b k l) (i : Int) : Ex pro (d + 1) 32 w [rV a, iV i] = some (some (iV (if 0 ≤ i ∧ i ≤ n then 1 else 0)), w) := by
  obtain ⟨⟨s1, s2, s3, s4, s5, s6, s7, s8⟩, h2, h3, h4, h5, h6, h7⟩ := h
  refine xX5_hasGap (Rn.ret ?_)
  rw [eX5_hasGap_0]
  grind
theorem s_hasRange (h : RowAt w a n b k l) {i m : Int} (hm : in32 m) : Ex pro (d + 1) 33 w [rV a, iV i, iV m] = some (some (iV (if 0 ≤ i ∧ 0 ≤ m ∧ i + m ≤ n then 1 else 0)), w) := by
  obtain ⟨⟨s1, s2, s3, s4, s5, s6, s7, s8⟩, h2, h3, h4, h5, h6, h7⟩ := h
  refine xX5_hasRange (Rn.ret ?_)
  rw [eX5_hasRange_0]
  unfold in32 at hm
  grind [w32_eq]
theorem s_bitAt (h : RowAt w a n b k l) (i : Int) : Ex pro (d + 1) 34 w [rV a, iV i] = some (some (iV (if 0 ≤ i ∧ i < n then b i else -1)), w) := by
  obtain ⟨⟨s1, s2, s3, s4, s5, s6, s7, s8⟩, h2, h3, h4, h5, h6, h7⟩ := h
  refine xX5_bitAt (Rn.ret ?_)
  rw [eX5_bitAt_0]
  grind
/-- how many of f places from p on hold v -/
def cnt (b : Int → Int) (v p : Int) : Nat → Int
  | 0 => 0
  | f + 1 => (if b p = v then 1 else 0) + cnt b v (p + 1) f
theorem cnt_le (b : Int → Int) (v : Int) : ∀ (f : Nat) (p : Int), 0 ≤ cnt b v p f ∧ cnt b v p f ≤ f
  | 0, p => by simp [cnt]
  | f + 1, p => by
    have := cnt_le b v f (p + 1)
    simp only [cnt]
    split <;> omega
theorem l_countIn {C : sC} (h : RowAt w a n b k l) {i m v : Int} (h0 : 0 ≤ i) (hm : 0 ≤ m) (hr : i + m ≤ n) : ∀ (f : Nat) (y p : Int), p + f = i + m → i ≤ p → 0 ≤ y → y ≤ p → Rn C mX5_countIn (15, [some (rV a), some (iV i), some (iV m), some (iV v), some (iV y), some (iV p)], [], w) (some (iV (y + cnt b v p f)), w)
  | 0, y, p, hp, hi, hy, hyp => by
    obtain ⟨⟨s1, s2, s3, s4, s5, s6, s7, s8⟩, h2, h3, h4, h5, h6, h7⟩ := h
    refine Rn.ret ?_
    rw [eX5_countIn_15]
    grind [w32_eq, cnt]
  | f + 1, y, p, hp, hi, hy, hyp => by
    have ih := l_countIn (C := C) (v := v) h h0 hm hr f (y + if b p = v then 1 else 0) (p + 1) (by omega) (by omega) (by grind) (by grind)
    rw [show y + (if b p = v then 1 else 0) + cnt b v (p + 1) f = y + cnt b v p (f + 1) by simp only [cnt]; omega] at ih
    obtain ⟨⟨s1, s2, s3, s4, s5, s6, s7, s8⟩, h2, h3, h4, h5, h6, h7⟩ := h
    refine Rn.cut ?_ ih
    rw [eX5_countIn_15]
    grind [w32_eq]
theorem s_countIn (h : RowAt w a n b k l) {i m v : Int} (hm : in32 m) : Ex pro (d + 2) 35 w [rV a, iV i, iV m, iV v] = some (some (iV (if 0 ≤ i ∧ 0 ≤ m ∧ i + m ≤ n then cnt b v i m.toNat else 0)), w) := by
  have e := s_hasRange (d := d) h (i := i) hm
  have s1 := h.1.1
  by_cases hc : 0 ≤ i ∧ 0 ≤ m ∧ i + m ≤ n
  · rw [if_pos hc] at e ⊢
    have := l_countIn (C := Ex pro (d + 1)) h (v := v) hc.1 hc.2.1 hc.2.2 m.toNat 0 i (by omega) (by omega) (by omega) (by omega)
    rw [Int.zero_add] at this
    refine xX5_countIn (Rn.cut ?_ this)
    rw [eX5_countIn_0, e]
    simp [s1, bI]
  · rw [if_neg hc] at e ⊢
    refine xX5_countIn (Rn.ret ?_)
    rw [eX5_countIn_0, e]
    simp [s1, bI]
/-- the k-th place that holds v -/
def sel (b : Int → Int) (v k ah p : Int) : Nat → Int
  | 0 => -1
  | f + 1 => if b p = v then (if ah = k then p else sel b v k (ah + 1) (p + 1) f) else sel b v k ah (p + 1) f
theorem l_placeOf {C : sC} (h : RowAt w a n b k l) {q v : Int} : ∀ (f : Nat) (y p : Int), p + f = n → 0 ≤ p → 0 ≤ y → y ≤ p → Rn C mX5_placeOf (5, [some (rV a), some (iV q), some (iV v), some (iV y), some (iV p)], [], w) (some (iV (sel b v q y p f)), w)
  | 0, y, p, hp, hi, hy, hyp => by
    obtain ⟨⟨s1, s2, s3, s4, s5, s6, s7, s8⟩, h2, h3, h4, h5, h6, h7⟩ := h
    refine Rn.ret ?_
    rw [eX5_placeOf_5]
    grind [sel]
  | f + 1, y, p, hp, hi, hy, hyp => by
    have ih1 := l_placeOf (C := C) (q := q) (v := v) h f (y + 1) (p + 1) (by omega) (by omega) (by omega) (by omega)
    have ih2 := l_placeOf (C := C) (q := q) (v := v) h f y (p + 1) (by omega) (by omega) (by omega) (by omega)
    obtain ⟨⟨s1, s2, s3, s4, s5, s6, s7, s8⟩, h2, h3, h4, h5, h6, h7⟩ := h
    by_cases c1 : b p = v
    · by_cases c2 : y = q
      · refine Rn.ret ?_
        rw [eX5_placeOf_5]
        grind [sel]
      · rw [show sel b v q y p (f + 1) = sel b v q (y + 1) (p + 1) f by simp [sel, c1, c2]]
        refine Rn.cut ?_ ih1
        rw [eX5_placeOf_5]
        grind [w32_eq]
    · rw [show sel b v q y p (f + 1) = sel b v q y (p + 1) f by simp [sel, c1]]
      refine Rn.cut ?_ ih2
      rw [eX5_placeOf_5]
      grind [w32_eq]
theorem s_placeOf (h : RowAt w a n b k l) (q v : Int) : Ex pro (d + 1) 36 w [rV a, iV q, iV v] = some (some (iV (sel b v q 0 0 n.toNat)), w) := by
  have hn := h.2.2.2.1
  have := l_placeOf (C := Ex pro d) h (q := q) (v := v) n.toNat 0 0 (by omega) (by omega) (by omega) (by omega)
  refine xX5_placeOf (Rn.cut ?_ this)
  rw [eX5_placeOf_0]
/-- the first place from p on that holds v -/
def nxt (b : Int → Int) (v p : Int) : Nat → Int
  | 0 => -1
  | f + 1 => if b p = v then p else nxt b v (p + 1) f
theorem l_nextPlace {C : sC} (h : RowAt w a n b k l) {v : Int} : ∀ (f : Nat) (p : Int), n ≤ p + f → p + f ≤ n ∨ f = 0 → 0 ≤ p → Rn C mX5_nextPlace (8, [some (rV a), none, some (iV v), some (iV p)], [], w) (some (iV (nxt b v p f)), w)
  | 0, p, hp, hq, hi => by
    obtain ⟨⟨s1, s2, s3, s4, s5, s6, s7, s8⟩, h2, h3, h4, h5, h6, h7⟩ := h
    refine Rn.ret ?_
    rw [eX5_nextPlace_8]
    grind [nxt]
  | f + 1, p, hp, hq, hi => by
    have ih := l_nextPlace (C := C) (v := v) h f (p + 1) (by omega) (by omega) (by omega)
    obtain ⟨⟨s1, s2, s3, s4, s5, s6, s7, s8⟩, h2, h3, h4, h5, h6, h7⟩ := h
    by_cases c1 : b p = v
    · refine Rn.ret ?_
      rw [eX5_nextPlace_8]
      grind [nxt]
    · rw [show nxt b v p (f + 1) = nxt b v (p + 1) f by simp [nxt, c1]]
      refine Rn.cut ?_ ih
      rw [eX5_nextPlace_8]
      grind [w32_eq]
theorem s_nextPlace (h : RowAt w a n b k l) {i : Int} (hi : 0 ≤ i) (v : Int) : Ex pro (d + 1) 37 w [rV a, iV i, iV v] = some (some (iV (nxt b v i (n - i).toNat)), w) := by
  have hn := h.2.2.2.1
  have := l_nextPlace (C := Ex pro d) h (v := v) (n - i).toNat i (by omega) (by omega) (by omega)
  refine xX5_nextPlace (Rn.cut ?_ this)
  rw [eX5_nextPlace_0, if_neg (by omega)]
/-- how many of f places from p on are unlike the one ahead -/
def rnc (b : Int → Int) (p : Int) : Nat → Int
  | 0 => 0
  | f + 1 => (if b p = b (p - 1) then 0 else 1) + rnc b (p + 1) f
theorem l_runCount {C : sC} (h : RowAt w a n b k l) : ∀ (f : Nat) (y p : Int), n ≤ p + f → p + f ≤ n ∨ f = 0 → 1 ≤ p → 0 ≤ y → y ≤ p → Rn C mX5_runCount (15, [some (rV a), some (iV y), some (iV p)], [], w) (some (iV (y + rnc b p f)), w)
  | 0, y, p, hp, hq, hi, hy, hyp => by
    obtain ⟨⟨s1, s2, s3, s4, s5, s6, s7, s8⟩, h2, h3, h4, h5, h6, h7⟩ := h
    refine Rn.ret ?_
    rw [eX5_runCount_15]
    grind [rnc]
  | f + 1, y, p, hp, hq, hi, hy, hyp => by
    have ih := l_runCount (C := C) h f (y + if b p = b (p - 1) then 0 else 1) (p + 1) (by omega) (by omega) (by omega) (by grind) (by grind)
    rw [show y + (if b p = b (p - 1) then 0 else 1) + rnc b (p + 1) f = y + rnc b p (f + 1) by simp only [rnc]; omega] at ih
    obtain ⟨⟨s1, s2, s3, s4, s5, s6, s7, s8⟩, h2, h3, h4, h5, h6, h7⟩ := h
    refine Rn.cut ?_ ih
    rw [eX5_runCount_15]
    grind [w32_eq]
def runF (b : Int → Int) (n : Int) : Int := if 0 < n then 1 + rnc b 1 (n - 1).toNat else 0
theorem s_runCount (h : RowAt w a n b k l) : Ex pro (d + 1) 38 w [rV a] = some (some (iV (runF b n)), w) := by
  have hn := h.2.2.2.1
  have hh := h
  obtain ⟨⟨s1, s2, s3, s4, s5, s6, s7, s8⟩, h2, h3, h4, h5, h6, h7⟩ := h
  by_cases c : 0 < n
  · have := l_runCount (C := Ex pro d) hh (n - 1).toNat 1 1 (by omega) (by omega) (by omega) (by omega) (by omega)
    refine xX5_runCount (Rn.cut ?_ (by unfold runF; rw [if_pos c]; exact this))
    rw [eX5_runCount_0]
    grind
  · have := l_runCount (C := Ex pro d) hh 0 0 1 (by omega) (by omega) (by omega) (by omega) (by omega)
    refine xX5_runCount (Rn.cut ?_ (by unfold runF; rw [if_neg c]; exact this))
    rw [eX5_runCount_0]
    grind
/-- the longest run of v -/
def lng (b : Int → Int) (v best run p : Int) : Nat → Int
  | 0 => best
  | f + 1 => if b p = v then lng b v (if best < run + 1 then run + 1 else best) (run + 1) (p + 1) f else lng b v best 0 (p + 1) f
theorem l_longestRun {C : sC} (h : RowAt w a n b k l) {v : Int} : ∀ (f : Nat) (y z p : Int), p + f = n → 0 ≤ p → 0 ≤ y → 0 ≤ z → z ≤ p → Rn C mX5_longestRun (7, [some (rV a), some (iV v), some (iV y), some (iV z), some (iV p)], [], w) (some (iV (lng b v y z p f)), w)
  | 0, y, z, p, hp, hi, hy, hz, hzp => by
    obtain ⟨⟨s1, s2, s3, s4, s5, s6, s7, s8⟩, h2, h3, h4, h5, h6, h7⟩ := h
    refine Rn.ret ?_
    rw [eX5_longestRun_7]
    grind [lng]
  | f + 1, y, z, p, hp, hi, hy, hz, hzp => by
    have ih1 := l_longestRun (C := C) (v := v) h f (if y < z + 1 then z + 1 else y) (z + 1) (p + 1) (by omega) (by omega) (by grind) (by omega) (by omega)
    have ih2 := l_longestRun (C := C) (v := v) h f y 0 (p + 1) (by omega) (by omega) (by omega) (by omega) (by omega)
    obtain ⟨⟨s1, s2, s3, s4, s5, s6, s7, s8⟩, h2, h3, h4, h5, h6, h7⟩ := h
    by_cases c1 : b p = v
    · rw [show lng b v y z p (f + 1) = lng b v (if y < z + 1 then z + 1 else y) (z + 1) (p + 1) f by simp [lng, c1]]
      refine Rn.cut ?_ ih1
      rw [eX5_longestRun_7]
      grind [w32_eq]
    · rw [show lng b v y z p (f + 1) = lng b v y 0 (p + 1) f by simp [lng, c1]]
      refine Rn.cut ?_ ih2
      rw [eX5_longestRun_7]
      grind [w32_eq]
theorem s_longestRun (h : RowAt w a n b k l) (v : Int) : Ex pro (d + 1) 39 w [rV a, iV v] = some (some (iV (lng b v 0 0 0 n.toNat)), w) := by
  have hn := h.2.2.2.1
  have := l_longestRun (C := Ex pro d) h (v := v) n.toNat 0 0 0 (by omega) (by omega) (by omega) (by omega) (by omega)
  refine xX5_longestRun (Rn.cut ?_ this)
  rw [eX5_longestRun_0]
/-- f bits from p on, behind x -/
def wrd (b : Int → Int) (n x p : Int) : Nat → Int
  | 0 => x
  | f + 1 => wrd b n (f_ior (f_ishl x 1) (if 0 ≤ p ∧ p < n ∧ b p = 1 then 1 else 0)) (p + 1) f
theorem l_wordFrom (h : RowAt w a n b k l) {i : Int} (hi0 : 0 ≤ i) (hin : i ≤ n) : ∀ (f : Nat) (y p : Int), p + f = i + 32 → i ≤ p → Rn (Ex pro (d + 1)) mX5_wordFrom (4, [some (rV a), some (iV i), some (iV y), some (iV p)], [], w) (some (iV (wrd b n y p f)), w)
  | 0, y, p, hp, hi => by
    obtain ⟨⟨s1, s2, s3, s4, s5, s6, s7, s8⟩, h2, h3, h4, h5, h6, h7⟩ := h
    refine Rn.ret ?_
    rw [eX5_wordFrom_4]
    grind [w32_eq, wrd]
  | f + 1, y, p, hp, hi => by
    have ih := l_wordFrom h hi0 hin f (f_ior (f_ishl y 1) (if 0 ≤ p ∧ p < n ∧ b p = 1 then 1 else 0)) (p + 1) (by omega) (by omega)
    have e := s_bitAt (d := d) h p
    obtain ⟨⟨s1, s2, s3, s4, s5, s6, s7, s8⟩, h2, h3, h4, h5, h6, h7⟩ := h
    refine Rn.cut ?_ ih
    rw [eX5_wordFrom_4, if_pos (by rw [w32_eq (by omega) (by omega)]; omega), if_pos s1, e]
    simp only [bI]
    rw [w32_eq (x := p + 1) (by omega) (by omega)]
    by_cases c : 0 ≤ p ∧ p < n
    · by_cases c2 : b p = 1
      · simp [c, c2]
      · simp [c, c2]
    · have c3 : ¬ (0 ≤ p ∧ p < n ∧ b p = 1) := fun z => c ⟨z.1, z.2.1⟩
      simp [c, c3]
theorem s_wordFrom (h : RowAt w a n b k l) {i : Int} (hi0 : 0 ≤ i) (hin : i ≤ n) : Ex pro (d + 2) 40 w [rV a, iV i] = some (some (iV (wrd b n 0 i 32)), w) := by
  have hn := h.2.2.2.1
  have := l_wordFrom (d := d) h hi0 hin 32 0 i (by omega) (by omega)
  refine xX5_wordFrom (Rn.cut ?_ this)
  rw [eX5_wordFrom_0]
/-- the places that hold 1, added -/
def smp (b : Int → Int) (p : Int) : Nat → Int
  | 0 => 0
  | f + 1 => (if b p = 1 then p else 0) + smp b (p + 1) f
theorem l_sumOfPlaces {C : sC} (h : RowAt w a n b k l) : ∀ (f : Nat) (y p : Int), p + f = n → 0 ≤ p → 0 ≤ y → y ≤ 600 * p → Rn C mX5_sumOfPlaces (4, [some (rV a), some (iV y), some (iV p)], [], w) (some (iV (y + smp b p f)), w)
  | 0, y, p, hp, hi, hy, hyp => by
    obtain ⟨⟨s1, s2, s3, s4, s5, s6, s7, s8⟩, h2, h3, h4, h5, h6, h7⟩ := h
    refine Rn.ret ?_
    rw [eX5_sumOfPlaces_4]
    grind [smp]
  | f + 1, y, p, hp, hi, hy, hyp => by
    have hn := h.2.2.2.1
    have ih := l_sumOfPlaces (C := C) h f (y + if b p = 1 then p else 0) (p + 1) (by omega) (by omega) (by grind) (by grind)
    rw [show y + (if b p = 1 then p else 0) + smp b (p + 1) f = y + smp b p (f + 1) by simp only [smp]; omega] at ih
    obtain ⟨⟨s1, s2, s3, s4, s5, s6, s7, s8⟩, h2, h3, h4, h5, h6, h7⟩ := h
    refine Rn.cut ?_ ih
    rw [eX5_sumOfPlaces_4]
    grind [w32_eq]
theorem s_sumOfPlaces (h : RowAt w a n b k l) : Ex pro (d + 1) 41 w [rV a] = some (some (iV (smp b 0 n.toNat)), w) := by
  have hn := h.2.2.2.1
  have := l_sumOfPlaces (C := Ex pro d) h n.toNat 0 0 (by omega) (by omega) (by omega) (by omega)
  rw [Int.zero_add] at this
  refine xX5_sumOfPlaces (Rn.cut ?_ this)
  rw [eX5_sumOfPlaces_0]
/-- how many of f places from p on are unlike -/
def unl (b c : Int → Int) (p : Int) : Nat → Int
  | 0 => 0
  | f + 1 => (if b p = c p then 0 else 1) + unl b c (p + 1) f
/-- the first unlike place, or the end -/
def ful (b c : Int → Int) (p : Int) : Nat → Int
  | 0 => p
  | f + 1 => if b p = c p then ful b c (p + 1) f else p
variable {a' n' k' : Int} {b' l' : Int → Int}
theorem l_unlikeBits {C : sC} (h : RowAt w a n b k l) (h' : RowAt w a' n' b' k' l') {m : Int} (hm : m ≤ n) (hm' : m ≤ n') : ∀ (f : Nat) (y p : Int), p + f = m → 0 ≤ p → 0 ≤ y → y ≤ 600 + p → Rn C mX5_unlikeBits (29, [some (rV a), some (rV a'), some (iV m), some (iV y), some (iV p)], [], w) (some (iV (y + unl b b' p f)), w)
  | 0, y, p, hp, hi, hy, hyp => by
    refine Rn.ret ?_
    rw [eX5_unlikeBits_29]
    grind [unl]
  | f + 1, y, p, hp, hi, hy, hyp => by
    have ih := l_unlikeBits (C := C) h h' hm hm' f (y + if b p = b' p then 0 else 1) (p + 1) (by omega) (by omega) (by grind) (by grind)
    rw [show y + (if b p = b' p then 0 else 1) + unl b b' (p + 1) f = y + unl b b' p (f + 1) by simp only [unl]; omega] at ih
    obtain ⟨⟨s1, s2, s3, s4, s5, s6, s7, s8⟩, h2, h3, h4, h5, h6, h7⟩ := h
    obtain ⟨⟨t1, t2, t3, t4, t5, t6, t7, t8⟩, g2, g3, g4, g5, g6, g7⟩ := h'
    refine Rn.cut ?_ ih
    rw [eX5_unlikeBits_29]
    grind [w32_eq]
def minI (x y : Int) : Int := if y < x then y else x
def maxI (x y : Int) : Int := if x < y then y else x
theorem s_unlikeBits (h : RowAt w a n b k l) (h' : RowAt w a' n' b' k' l') : Ex pro (d + 1) 42 w [rV a, rV a'] = some (some (iV (maxI n n' - minI n n' + unl b b' 0 (minI n n').toNat)), w) := by
  have := l_unlikeBits (C := Ex pro d) h h' (m := minI n n') (by unfold minI; grind) (by unfold minI; grind) (minI n n').toNat (maxI n n' - minI n n') 0 (by have := h.2.2.2.1; have := h'.2.2.2.1; unfold minI; grind) (by omega) (by unfold minI maxI; grind) (by have := h.2.2.2.1; have := h'.2.2.2.1; unfold minI maxI; grind)
  obtain ⟨⟨s1, s2, s3, s4, s5, s6, s7, s8⟩, h2, h3, h4, h5, h6, h7⟩ := h
  obtain ⟨⟨t1, t2, t3, t4, t5, t6, t7, t8⟩, g2, g3, g4, g5, g6, g7⟩ := h'
  refine xX5_unlikeBits (Rn.cut ?_ this)
  rw [eX5_unlikeBits_0]
  unfold minI maxI
  grind [w32_eq]
theorem l_firstUnlike {C : sC} (h : RowAt w a n b k l) (h' : RowAt w a' n' b' k' l') {m : Int} (hm : m ≤ n) (hm' : m ≤ n') : ∀ (f : Nat) (p : Int), p + f = m → 0 ≤ p → Rn C mX5_firstUnlike (14, [some (rV a), some (rV a'), some (iV m), some (iV p)], [], w) (some (iV (if ful b b' p f < m then ful b b' p f else if n = n' then -1 else m)), w)
  | 0, p, hp, hi => by
    obtain ⟨⟨s1, s2, s3, s4, s5, s6, s7, s8⟩, h2, h3, h4, h5, h6, h7⟩ := h
    obtain ⟨⟨t1, t2, t3, t4, t5, t6, t7, t8⟩, g2, g3, g4, g5, g6, g7⟩ := h'
    refine Rn.ret ?_
    rw [eX5_firstUnlike_14]
    grind [ful]
  | f + 1, p, hp, hi => by
    have ih := l_firstUnlike (C := C) h h' hm hm' f (p + 1) (by omega) (by omega)
    obtain ⟨⟨s1, s2, s3, s4, s5, s6, s7, s8⟩, h2, h3, h4, h5, h6, h7⟩ := h
    obtain ⟨⟨t1, t2, t3, t4, t5, t6, t7, t8⟩, g2, g3, g4, g5, g6, g7⟩ := h'
    by_cases c1 : b p = b' p
    · rw [show ful b b' p (f + 1) = ful b b' (p + 1) f by simp [ful, c1]]
      refine Rn.cut ?_ ih
      rw [eX5_firstUnlike_14]
      grind [w32_eq]
    · refine Rn.ret ?_
      rw [eX5_firstUnlike_14]
      grind [ful]
def difF (b b' : Int → Int) (n n' : Int) : Int := if ful b b' 0 (minI n n').toNat < minI n n' then ful b b' 0 (minI n n').toNat else if n = n' then -1 else minI n n'
theorem s_firstUnlike (h : RowAt w a n b k l) (h' : RowAt w a' n' b' k' l') : Ex pro (d + 1) 43 w [rV a, rV a'] = some (some (iV (difF b b' n n')), w) := by
  have := l_firstUnlike (C := Ex pro d) h h' (m := minI n n') (by unfold minI; grind) (by unfold minI; grind) (minI n n').toNat 0 (by have := h.2.2.2.1; have := h'.2.2.2.1; unfold minI; grind) (by omega)
  obtain ⟨⟨s1, s2, s3, s4, s5, s6, s7, s8⟩, h2, h3, h4, h5, h6, h7⟩ := h
  obtain ⟨⟨t1, t2, t3, t4, t5, t6, t7, t8⟩, g2, g3, g4, g5, g6, g7⟩ := h'
  refine xX5_firstUnlike (Rn.cut ?_ this)
  rw [eX5_firstUnlike_0]
  unfold minI
  grind
theorem s_beginsWith (h : RowAt w a n b k l) (h' : RowAt w a' n' b' k' l') : Ex pro (d + 2) 44 w [rV a, rV a'] = some (some (iV (if difF b b' n n' = -1 ∨ difF b b' n n' = n' then 1 else 0)), w) := by
  have e := s_firstUnlike (d := d) h h'
  obtain ⟨⟨s1, s2, s3, s4, s5, s6, s7, s8⟩, h2, h3, h4, h5, h6, h7⟩ := h
  obtain ⟨⟨t1, t2, t3, t4, t5, t6, t7, t8⟩, g2, g3, g4, g5, g6, g7⟩ := h'
  refine xX5_beginsWith (Rn.ret ?_)
  rw [eX5_beginsWith_0, if_pos s1, e]
  simp only [bI]
  grind
/-- f bits of the tape t from q on stand in the row from i + q on -/
def hat (b t : Int → Int) (i q : Int) : Nat → Int
  | 0 => 1
  | f + 1 => if b (i + q) = t q then hat b t i (q + 1) f else 0
theorem l_hasAt {C : sC} (h : RowAt w a n b k l) {i m t : Int} (h0 : 0 ≤ i) (hr : i + m ≤ n) (ht : kd w t = 20) (hl : m ≤ ln w t) : ∀ (f : Nat) (q : Int), q + f = m → 0 ≤ q → Rn C mX5_hasAt (20, [some (rV a), some (iV i), some (rV t), some (iV m), some (iV q)], [], w) (some (iV (hat b (gv w t) i q f)), w)
  | 0, q, hp, hi => by
    refine Rn.ret ?_
    rw [eX5_hasAt_20]
    grind [hat]
  | f + 1, q, hp, hi => by
    have ih := l_hasAt (C := C) h h0 hr ht hl f (q + 1) (by omega) (by omega)
    obtain ⟨⟨s1, s2, s3, s4, s5, s6, s7, s8⟩, h2, h3, h4, h5, h6, h7⟩ := h
    by_cases c1 : b (i + q) = gv w t q
    · rw [show hat b (gv w t) i q (f + 1) = hat b (gv w t) i (q + 1) f by simp [hat, c1]]
      refine Rn.cut ?_ ih
      rw [eX5_hasAt_20]
      grind [w32_eq]
    · refine Rn.ret ?_
      rw [eX5_hasAt_20]
      grind [w32_eq, hat]
theorem s_hasAt (h : RowAt w a n b k l) {i m t : Int} (h0 : 0 ≤ i) (hm0 : 0 ≤ m) (hr : i + m ≤ n) (ht : kd w t = 20) (hl : m ≤ ln w t) : Ex pro (d + 2) 45 w [rV a, iV i, rV t, iV m] = some (some (iV (hat b (gv w t) i 0 m.toNat)), w) := by
  have hn := h.2.2.2.1
  have e := s_hasRange (d := d) h (i := i) (m := m) (by unfold in32; omega)
  rw [if_pos ⟨h0, hm0, hr⟩] at e
  have := l_hasAt (C := Ex pro (d + 1)) h h0 hr ht hl m.toNat 0 (by omega) (by omega)
  obtain ⟨⟨s1, s2, s3, s4, s5, s6, s7, s8⟩, h2, h3, h4, h5, h6, h7⟩ := h
  refine xX5_hasAt (Rn.cut ?_ this)
  rw [eX5_hasAt_0, if_pos s1, e]
  simp only [bI]
  grind
/-- f sizes from p on, added -/
def psm (l : Int → Int) (p : Int) : Nat → Int
  | 0 => 0
  | f + 1 => l p + psm l (p + 1) f
end RQ
