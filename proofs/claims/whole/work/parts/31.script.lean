/-! ===== the letters of the class ===== -/
def ScSh (w : sW) (a : Int) : Prop := kd w a = 6 ∧ gv w a 0 = a + 1 ∧ kd w (a + 1) = 21 ∧ ln w (a + 1) = 200 ∧ 32 ≤ a
/-- m letters t -/
def ScI (w : sW) (a : Int) (T : Int × (Int → Int)) : Prop := ScSh w a ∧ gv w a 1 = T.1 ∧ (0 ≤ T.1 ∧ T.1 ≤ 200) ∧ (∀ i, 0 ≤ i → i < T.1 → gv w (a + 1) i = T.2 i) ∧ ∀ i, 0 ≤ i → i < T.1 → 0 ≤ T.2 i ∧ T.2 i < 8
theorem ScSh.fr {w w' : sW} {a lo hi : Int} (h : ScSh w a) (f : Fr w w' lo hi) (o : a + 1 < lo ∨ hi < a) : ScSh w' a := by
  unfold ScSh at *
  simp only [f.kdE, f.lnE]
  rw [f.2.2 a 0 (by omega)]
  exact h
theorem ScI.fr {w w' : sW} {a lo hi : Int} {T : Int × (Int → Int)} (h : ScI w a T) (f : Fr w w' lo hi) (o : a + 1 < lo ∨ hi < a) : ScI w' a T := by
  refine ⟨h.1.fr f o, ?_, h.2.2.1, fun i x y => ?_, h.2.2.2.2⟩
  · rw [f.2.2 _ _ (by omega)]; exact h.2.1
  · rw [f.2.2 _ _ (by omega)]; exact h.2.2.2.1 i x y
section SC
variable {d : Nat} {w : sW} {a : Int} {T : Int × (Int → Int)}
theorem c_signAt (h : ScI w a T) (i : Int) : Ex pro (d + 1) 56 w [rV a, iV i] = some (some (iV (if 0 ≤ i ∧ i < T.1 then T.2 i else -1)), w) := by
  obtain ⟨⟨s1, s2, s3, s4, s5⟩, h2, h3, h4, h5⟩ := h
  refine xX6_signAt (Rn.ret ?_)
  rw [eX6_signAt_0]
  grind
theorem c_hasRange (h : ScI w a T) {i c : Int} (hc : in32 c) : Ex pro (d + 1) 57 w [rV a, iV i, iV c] = some (some (iV (if 0 ≤ i ∧ 0 ≤ c ∧ i + c ≤ T.1 then 1 else 0)), w) := by
  obtain ⟨⟨s1, s2, s3, s4, s5⟩, h2, h3, h4, h5⟩ := h
  refine xX6_hasRange (Rn.ret ?_)
  rw [eX6_hasRange_0]
  unfold in32 at hc
  grind [w32_eq]
theorem l_cCountIn {C : sC} (h : ScI w a T) {j v : Int} : ∀ (f : Nat) (y p : Int), (p + f = minI j T.1 ∨ (f = 0 ∧ minI j T.1 ≤ p)) → 0 ≤ p → 0 ≤ y → y + f ≤ 200 → Rn C mX6_countIn (10, [some (rV a), none, some (iV j), some (iV v), some (iV y), some (iV p)], [], w) (some (iV (y + cnt T.2 v p f)), w)
  | 0, y, p, hp, hi, hy, hyp => by
    obtain ⟨⟨s1, s2, s3, s4, s5⟩, h2, h3, h4, h5⟩ := h
    refine Rn.ret ?_
    rw [eX6_countIn_10]
    unfold minI at hp
    grind [cnt]
  | f + 1, y, p, hp, hi, hy, hyp => by
    have ih := l_cCountIn (C := C) (j := j) (v := v) h f (y + if T.2 p = v then 1 else 0) (p + 1) (by omega) (by omega) (by grind) (by grind)
    rw [show y + (if T.2 p = v then 1 else 0) + cnt T.2 v (p + 1) f = y + cnt T.2 v p (f + 1) by simp only [cnt]; omega] at ih
    obtain ⟨⟨s1, s2, s3, s4, s5⟩, h2, h3, h4, h5⟩ := h
    refine Rn.cut ?_ ih
    rw [eX6_countIn_10]
    unfold minI at hp
    grind [w32_eq]
/-- letters v in i .. j -/
def ccn (T : Int × (Int → Int)) (i j v : Int) : Int := cnt T.2 v (maxI i 0) (minI j T.1 - maxI i 0).toNat
theorem ccn_le (T : Int × (Int → Int)) (h : 0 ≤ T.1 ∧ T.1 ≤ 200) (i j v : Int) : 0 ≤ ccn T i j v ∧ ccn T i j v ≤ 200 := by
  have := cnt_le T.2 v (minI j T.1 - maxI i 0).toNat (maxI i 0)
  unfold ccn
  unfold minI maxI at *
  grind
theorem c_countIn (h : ScI w a T) (i j v : Int) : Ex pro (d + 1) 58 w [rV a, iV i, iV j, iV v] = some (some (iV (ccn T i j v)), w) := by
  have h3 := h.2.2.1
  have e : maxI i 0 = if i < 0 then 0 else i := rfl
  have := l_cCountIn (C := Ex pro d) h (j := j) (v := v) (minI j T.1 - maxI i 0).toNat 0 (maxI i 0) (by omega) (by rw [e]; grind) (by omega) (by unfold minI maxI; grind)
  rw [Int.zero_add] at this
  refine xX6_countIn (Rn.cut ?_ this)
  rw [eX6_countIn_0, e]
theorem l_cPlaceOf {C : sC} (h : ScI w a T) {q v : Int} : ∀ (f : Nat) (y p : Int), p + f = T.1 → 0 ≤ p → 0 ≤ y → y ≤ p → Rn C mX6_placeOf (5, [some (rV a), some (iV v), some (iV q), some (iV y), some (iV p)], [], w) (some (iV (sel T.2 v q y p f)), w)
  | 0, y, p, hp, hi, hy, hyp => by
    obtain ⟨⟨s1, s2, s3, s4, s5⟩, h2, h3, h4, h5⟩ := h
    refine Rn.ret ?_
    rw [eX6_placeOf_5]
    grind [sel]
  | f + 1, y, p, hp, hi, hy, hyp => by
    have ih1 := l_cPlaceOf (C := C) (q := q) (v := v) h f (y + 1) (p + 1) (by omega) (by omega) (by omega) (by omega)
    have ih2 := l_cPlaceOf (C := C) (q := q) (v := v) h f y (p + 1) (by omega) (by omega) (by omega) (by omega)
    obtain ⟨⟨s1, s2, s3, s4, s5⟩, h2, h3, h4, h5⟩ := h
    by_cases c1 : T.2 p = v
    · by_cases c2 : y = q
      · refine Rn.ret ?_
        rw [eX6_placeOf_5]
        grind [sel]
      · rw [show sel T.2 v q y p (f + 1) = sel T.2 v q (y + 1) (p + 1) f by simp [sel, c1, c2]]
        refine Rn.cut ?_ ih1
        rw [eX6_placeOf_5]
        grind [w32_eq]
    · rw [show sel T.2 v q y p (f + 1) = sel T.2 v q y (p + 1) f by simp [sel, c1]]
      refine Rn.cut ?_ ih2
      rw [eX6_placeOf_5]
      grind [w32_eq]
theorem c_placeOf (h : ScI w a T) (v q : Int) : Ex pro (d + 1) 59 w [rV a, iV v, iV q] = some (some (iV (sel T.2 v q 0 0 T.1.toNat)), w) := by
  have hn := h.2.2.1
  have := l_cPlaceOf (C := Ex pro d) h (q := q) (v := v) T.1.toNat 0 0 (by omega) (by omega) (by omega) (by omega)
  refine xX6_placeOf (Rn.cut ?_ this)
  rw [eX6_placeOf_0]
/-- the k-th least letter, walked from letter c on -/
def lst (T : Int × (Int → Int)) (i j k ah c : Int) : Nat → Int
  | 0 => -1
  | f + 1 => if k < ah + ccn T i j c then c else lst T i j k (ah + ccn T i j c) (c + 1) f
theorem l_leastOf (h : ScI w a T) {i j k : Int} : ∀ (f : Nat) (y p : Int), p + f = 8 → 0 ≤ p → 0 ≤ y → y ≤ 200 * p → Rn (Ex pro (d + 1)) mX6_leastOf (6, [some (rV a), some (iV i), some (iV j), some (iV k), some (iV y), some (iV p)], [], w) (some (iV (lst T i j k y p f)), w)
  | 0, y, p, hp, hi, hy, hyp => by
    refine Rn.ret ?_
    rw [eX6_leastOf_6]
    grind [lst]
  | f + 1, y, p, hp, hi, hy, hyp => by
    have e := c_countIn (d := d) h i j p
    have b := ccn_le T h.2.2.1 i j p
    have ih := l_leastOf (i := i) (j := j) (k := k) h f (y + ccn T i j p) (p + 1) (by omega) (by omega) (by omega) (by omega)
    obtain ⟨⟨s1, s2, s3, s4, s5⟩, h2, h3, h4, h5⟩ := h
    by_cases c1 : k < y + ccn T i j p
    · refine Rn.ret ?_
      rw [eX6_leastOf_6, e]
      simp only [bI]
      rw [w32_eq (x := y + ccn T i j p) (by omega) (by omega)]
      grind [lst]
    · rw [show lst T i j k y p (f + 1) = lst T i j k (y + ccn T i j p) (p + 1) f by simp [lst, c1]]
      refine Rn.cut ?_ ih
      rw [eX6_leastOf_6, e]
      simp only [bI]
      rw [w32_eq (x := y + ccn T i j p) (by omega) (by omega)]
      grind [w32_eq]
theorem c_leastOf (h : ScI w a T) (i j k : Int) : Ex pro (d + 2) 60 w [rV a, iV i, iV j, iV k] = some (some (iV (lst T i j k 0 0 8)), w) := by
  have := l_leastOf (d := d) h (i := i) (j := j) (k := k) 8 0 0 (by omega) (by omega) (by omega) (by omega)
  refine xX6_leastOf (Rn.cut ?_ this)
  rw [eX6_leastOf_0]
/-- a node's bit: letters whose upper bits (sh + 1 out) are u, the i-th of them, its bit sh -/
def ndb (t : Int → Int) (u sh i ah p : Int) : Nat → Int
  | 0 => -1
  | f + 1 => if f_ishr (t p) (sh + 1) = u then (if ah = i then f_iand (f_ishr (t p) sh) 1 else ndb t u sh i (ah + 1) (p + 1) f) else ndb t u sh i ah (p + 1) f
theorem l_nodeBit {C : sC} (h : ScI w a T) {n i b s : Int} (hs : 0 ≤ s ∧ s ≤ 2) (hn : in32 (n - b)) : ∀ (f : Nat) (y p : Int), p + f = T.1 → 0 ≤ p → 0 ≤ y → y ≤ p → Rn C mX6_nodeBit (45, [some (rV a), some (iV n), some (iV i), some (iV b), some (iV s), some (iV y), some (iV p)], [], w) (some (iV (ndb T.2 (n - b) s i y p f)), w)
  | 0, y, p, hp, hi, hy, hyp => by
    obtain ⟨⟨s1, s2, s3, s4, s5⟩, h2, h3, h4, h5⟩ := h
    refine Rn.ret ?_
    rw [eX6_nodeBit_45]
    grind [ndb]
  | f + 1, y, p, hp, hi, hy, hyp => by
    have ih1 := l_nodeBit (C := C) (i := i) h hs hn f (y + 1) (p + 1) (by omega) (by omega) (by omega) (by omega)
    have ih2 := l_nodeBit (C := C) (i := i) h hs hn f y (p + 1) (by omega) (by omega) (by omega) (by omega)
    obtain ⟨⟨s1, s2, s3, s4, s5⟩, h2, h3, h4, h5⟩ := h
    have e := h4 p hi (by omega)
    unfold in32 at hn
    by_cases c1 : f_ishr (T.2 p) (s + 1) = n - b
    · by_cases c2 : y = i
      · rw [show ndb T.2 (n - b) s i y p (f + 1) = f_iand (f_ishr (T.2 p) s) 1 by simp only [ndb]; rw [if_pos c1, if_pos c2]]
        refine Rn.ret ?_
        rw [eX6_nodeBit_45, s2, e, w32_eq (x := s + 1) (by omega) (by omega), w32_eq (x := n - b) (by omega) (by omega)]
        grind
      · rw [show ndb T.2 (n - b) s i y p (f + 1) = ndb T.2 (n - b) s i (y + 1) (p + 1) f by simp only [ndb]; rw [if_pos c1, if_neg c2]]
        refine Rn.cut ?_ ih1
        rw [eX6_nodeBit_45, s2, e, w32_eq (x := s + 1) (by omega) (by omega), w32_eq (x := n - b) (by omega) (by omega), w32_eq (x := y + 1) (by omega) (by omega), w32_eq (x := p + 1) (by omega) (by omega)]
        grind
    · rw [show ndb T.2 (n - b) s i y p (f + 1) = ndb T.2 (n - b) s i y (p + 1) f by simp only [ndb]; rw [if_neg c1]]
      refine Rn.cut ?_ ih2
      rw [eX6_nodeBit_45, s2, e, w32_eq (x := s + 1) (by omega) (by omega), w32_eq (x := n - b) (by omega) (by omega), w32_eq (x := p + 1) (by omega) (by omega)]
      grind
def nodF (T : Int × (Int → Int)) (n i : Int) : Int := ndb T.2 (n - (if n = 0 then 0 else if n < 3 then 1 else 3)) (if n = 0 then 2 else if n < 3 then 1 else 0) i 0 0 T.1.toNat
theorem c_nodeBit (h : ScI w a T) {n : Int} (hn : 0 ≤ n ∧ n ≤ 6) (i : Int) : Ex pro (d + 1) 61 w [rV a, iV n, iV i] = some (some (iV (nodF T n i)), w) := by
  have hm := h.2.2.1
  have := l_nodeBit (C := Ex pro d) h (n := n) (i := i) (b := if n = 0 then 0 else if n < 3 then 1 else 3) (s := if n = 0 then 2 else if n < 3 then 1 else 0) (by grind) (by unfold in32; grind) T.1.toNat 0 0 (by omega) (by omega) (by omega) (by omega)
  refine xX6_nodeBit (Rn.cut (c' := (18, [some (rV a), some (iV n), some (iV i), none, none, none, none], [iV (if n = 0 then 0 else if n < 3 then 1 else 3)], w)) ?_ (Rn.cut ?_ this))
  · rw [eX6_nodeBit_0]
    grind
  · rw [eX6_nodeBit_18]
    grind
def insT (T : Int × (Int → Int)) (i v : Int) : Int × (Int → Int) := (T.1 + 1, insB T.2 i v)
def remT (T : Int × (Int → Int)) (i c : Int) : Int × (Int → Int) := (T.1 - c, remB T.2 i c)
theorem c_insert (h : ScI w a T) (hn : T.1 < 200) {i v : Int} (hi : 0 ≤ i ∧ i ≤ T.1) (hv : 0 ≤ v ∧ v < 8) : ∃ w', Ex pro (d + 1) 62 w [rV a, iV i, iV v] = some (none, w') ∧ Fr w w' a (a + 1) ∧ ScI w' a (insT T i v) := by
  obtain ⟨m, t⟩ := T
  obtain ⟨⟨s1, s2, s3, s4, s5⟩, h2, h3, h4, h5⟩ := h
  simp only at h2 h3 h4 h5 hn hi
  refine ⟨sv (sv (cp w (a + 1) i (a + 1) (i + 1) (m - i)) (a + 1) i v) a 1 (m + 1), ?_, Fr.trans (w' := cp w (a + 1) i (a + 1) (i + 1) (m - i)) (Fr.cpI (by omega) (by omega)) (Fr.trans (Fr.svI (r := a + 1) (by omega) (by omega)) (Fr.svI (by omega) (by omega))), ?_⟩
  · refine xX6_insert (Rn.ret ?_)
    rw [eX6_insert_0]
    simp only [wl_eq, kdS, kdC, lnS, lnC]
    rw [s2, h2, w32_eq (x := i + 1) (by omega) (by omega), w32_eq (x := m - i) (by omega) (by omega)]
    grind [w32_eq, gvS, gvC]
  · unfold ScI ScSh insT insB
    simp only [kdS, kdC, lnS, lnC, gvS, gvC]
    refine ⟨by grind, by grind, by omega, by grind, fun x x1 x2 => ?_⟩
    split
    · exact h5 x x1 (by omega)
    · split
      · exact hv
      · exact h5 (x - 1) (by omega) (by omega)
theorem c_remove (h : ScI w a T) {i c : Int} (hi : 0 ≤ i) (hc : 0 ≤ c) (hn : i + c ≤ T.1) : ∃ w', Ex pro (d + 2) 63 w [rV a, iV i, iV c] = some (none, w') ∧ Fr w w' a (a + 1) ∧ ScI w' a (remT T i c) := by
  have hr := c_hasRange (d := d) h (i := i) (c := c) (by have := h.2.2.1; unfold in32; omega)
  rw [if_pos ⟨hi, hc, hn⟩] at hr
  obtain ⟨m, t⟩ := T
  obtain ⟨⟨s1, s2, s3, s4, s5⟩, h2, h3, h4, h5⟩ := h
  simp only at h2 h3 h4 h5 hn
  refine ⟨sv (cp w (a + 1) (i + c) (a + 1) i (m - i - c)) a 1 (m - c), ?_, Fr.trans (w' := cp w (a + 1) (i + c) (a + 1) i (m - i - c)) (Fr.cpI (by omega) (by omega)) (Fr.svI (by omega) (by omega)), ?_⟩
  · refine xX6_remove (Rn.ret ?_)
    rw [eX6_remove_0, if_pos s1, hr]
    simp only [bI, wl_eq, kdS, kdC, lnS, lnC]
    rw [s2, h2, w32_eq (x := i + c) (by omega) (by omega), w32_eq (x := m - i) (by omega) (by omega), w32_eq (x := m - i - c) (by omega) (by omega)]
    grind [w32_eq, gvS, gvC]
  · unfold ScI ScSh remT remB
    simp only [kdS, kdC, lnS, lnC, gvS, gvC]
    refine ⟨by grind, by grind, by omega, ?_, fun x x1 x2 => ?_⟩
    · intro x x1 x2
      rw [if_neg (by omega)]
      by_cases z : x < i
      · rw [if_neg (by omega), if_pos z]
        exact h4 x x1 (by omega)
      · rw [if_pos ⟨by trivial, by omega, by omega⟩, if_neg z, show i + c + (x - i) = x + c by omega]
        exact h4 (x + c) (by omega) (by omega)
    · split
      · exact h5 x x1 (by omega)
      · exact h5 (x + c) (by omega) (by omega)
theorem c_copyFrom {a' : Int} (ho : a + 1 < a' ∨ a' + 1 < a) (h : ScSh w a) (h' : ScI w a' T) : ∃ w', Ex pro (d + 1) 55 w [rV a, rV a'] = some (none, w') ∧ Fr w w' a (a + 1) ∧ ScI w' a T := by
  obtain ⟨m, t⟩ := T
  obtain ⟨s1, s2, s3, s4, s5⟩ := h
  obtain ⟨⟨t1, t2, t3, t4, t5⟩, h2, h3, h4, h5⟩ := h'
  simp only at h2 h3 h4 h5
  refine ⟨sv (cp w (a' + 1) 0 (a + 1) 0 m) a 1 m, ?_, Fr.trans (w' := cp w (a' + 1) 0 (a + 1) 0 m) (Fr.cpI (by omega) (by omega)) (Fr.svI (by omega) (by omega)), ?_⟩
  · refine xX6_copyFrom (Rn.ret ?_)
    rw [eX6_copyFrom_0]
    simp only [wl_eq, kdS, kdC, lnS, lnC]
    have q1 : gv (cp w (a' + 1) 0 (a + 1) 0 m) a' 1 = m := by rw [gvC, if_neg (by omega), h2]
    rw [t2, s2, h2, q1]
    grind
  · unfold ScI ScSh
    simp only [kdS, kdC, lnS, lnC, gvS, gvC]
    grind
end SC
