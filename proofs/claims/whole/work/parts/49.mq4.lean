/-! ===== the reference's questions: the least letters, the nodes ===== -/
theorem ccn_in {T : Int × (Int → Int)} {i j c : Int} (hi : 0 ≤ i) (hj : j ≤ T.1) : ccn T i j c = cnt T.2 c i (j - i).toNat := by
  unfold ccn minI maxI
  by_cases z : T.1 < j
  · omega
  · rw [if_neg z]
    by_cases y : i < 0
    · omega
    · rw [if_neg y]
theorem shr8 {c : Int} (h0 : 0 ≤ c) (h8 : c < 8) : f_ishr c 3 = 0 ∧ f_ishr c 2 = c / 4 ∧ f_ishr c 1 = c / 2 := by
  have h : c = 0 ∨ c = 1 ∨ c = 2 ∨ c = 3 ∨ c = 4 ∨ c = 5 ∨ c = 6 ∨ c = 7 := by omega
  rcases h with e | e | e | e | e | e | e | e <;> subst e <;> decide
section MQ4
variable {d : Nat} {w : sW} {m : Int} {A : Rm}
theorem l_mLeastIn (h : MoI w m A) {i j k c : Int} (hj : j ≤ nT A) {C : sC} {res : Option sV × sW} : ∀ (f : Nat) (y p : Int), (p + f = j ∨ (f = 0 ∧ j ≤ p)) → 0 ≤ p → 0 ≤ y → y + f ≤ 10000 → Rn C mX12_least (43, [some (rV m), some (iV i), some (iV j), some (iV k), some (iV (y + cnt (tT A) c p f)), some (iV c), some (iV (p + f))], [], w) res → Rn C mX12_least (43, [some (rV m), some (iV i), some (iV j), some (iV k), some (iV y), some (iV c), some (iV p)], [], w) res
  | 0, y, p, hp, h0, hy, hyp, g => by
    simpa [cnt] using g
  | f + 1, y, p, hp, h0, hy, hyp, g => by
    have l2 := h.l2
    have e : y + (if tT A p = c then 1 else 0) + cnt (tT A) c (p + 1) f = y + cnt (tT A) c p (f + 1) := by simp only [cnt]; omega
    have ih := l_mLeastIn h hj (i := i) (k := k) (c := c) (C := C) (res := res) f (y + if tT A p = c then 1 else 0) (p + 1) (by omega) (by omega) (by split <;> omega) (by split <;> omega) (by rw [e, show p + 1 + (f : Int) = p + ((f + 1 : Nat) : Int) by omega]; exact g)
    refine Rn.cut ?_ ih
    rw [eX12_least_43, if_pos (by omega), if_pos h.1.1, w32_eq (x := 2616 + p) (by omega) (by omega), if_pos (h.1.g (by omega) (by omega)), h.1.2.1, (h.tx h0 (by omega)).1, w32_eq (x := y + 1) (by omega) (by omega), w32_eq (x := p + 1) (by omega) (by omega)]
    by_cases z : tT A p = c
    · rw [if_pos z, if_pos z]
    · rw [if_neg z, if_neg z, Int.add_zero]
theorem l_mLeast (h : MoI w m A) {i j k : Int} (hi : 0 ≤ i) (hj : j ≤ nT A) {C : sC} : ∀ (f : Nat) (y c : Int), c + f = 8 → 0 ≤ c → 0 ≤ y → y ≤ 200 * c → Rn C mX12_least (33, [some (rV m), some (iV i), some (iV j), some (iV k), some (iV y), some (iV c), none], [], w) (some (iV (lst A.2.2.2.2 i j k y c f)), w)
  | 0, y, c, hc, h0, hy, hyc => by
    refine Rn.ret ?_
    rw [eX12_least_33, if_neg (by omega)]
    rfl
  | f + 1, y, c, hc, h0, hy, hyc => by
    have l2 := h.l2
    have e : ccn A.2.2.2.2 i j c = cnt (tT A) c i (j - i).toNat := ccn_in hi hj
    have b := cnt_le (tT A) c (j - i).toNat i
    refine Rn.cut (c' := (43, [some (rV m), some (iV i), some (iV j), some (iV k), some (iV y), some (iV c), some (iV i)], [], w)) (by rw [eX12_least_33, if_pos (by omega)]) ?_
    refine l_mLeastIn h hj (j - i).toNat y i (by omega) hi hy (by omega) ?_
    by_cases z : k < y + ccn A.2.2.2.2 i j c
    · refine Rn.ret ?_
      rw [eX12_least_43, if_neg (by omega), ← e, if_pos z]
      simp only [lst]
      rw [if_pos z]
    · have ih := l_mLeast h hi hj (k := k) (C := C) f (y + ccn A.2.2.2.2 i j c) (c + 1) (by omega) (by omega) (by omega) (by omega)
      rw [show lst A.2.2.2.2 i j k y c (f + 1) = lst A.2.2.2.2 i j k (y + ccn A.2.2.2.2 i j c) (c + 1) f by simp only [lst]; rw [if_neg z]]
      refine Rn.cut ?_ ih
      rw [eX12_least_43, if_neg (by omega), ← e, if_neg z, w32_eq (by omega) (by omega)]
theorem lst_no {T : Int × (Int → Int)} {i j k : Int} (hi : 0 ≤ i) (hj : j ≤ T.1) (hij : j < i) (hk : 0 ≤ k) : ∀ (f : Nat) (c : Int), lst T i j k 0 c f = -1
  | 0, c => rfl
  | f + 1, c => by
    have e : ccn T i j c = 0 := by rw [ccn_in hi hj, show (j - i).toNat = 0 by omega]; rfl
    simp only [lst]
    rw [e, if_neg (by omega)]
    exact lst_no hi hj hij hk f (c + 1)
theorem q_least (h : MoI w m A) (i j k : Int) : Ex pro (d + 1) 227 w [rV m, iV i, iV j, iV k] = some (some (iV (if 0 ≤ i ∧ i ≤ j ∧ j ≤ nT A ∧ 0 ≤ k then lst A.2.2.2.2 i j k 0 0 8 else -1)), sv w m 0 0) := by
  have h' := h.t0
  have l2 := h.l2
  by_cases z : 0 ≤ i ∧ j ≤ nT A ∧ 0 ≤ k
  · have l := l_mLeast h' (k := k) (C := Ex pro d) z.1 z.2.1 8 0 0 (by omega) (by omega) (by omega) (by omega)
    have e : (if 0 ≤ i ∧ i ≤ j ∧ j ≤ nT A ∧ 0 ≤ k then lst A.2.2.2.2 i j k 0 0 8 else -1) = lst A.2.2.2.2 i j k 0 0 8 := by
      by_cases y : i ≤ j
      · rw [if_pos ⟨z.1, y, z.2⟩]
      · rw [if_neg (fun q => y q.2.1), lst_no z.1 z.2.1 (by omega) z.2.2]
    rw [e]
    refine xX12_least (Rn.cut ?_ l)
    rw [eX12_least_0, if_pos h.1.1, wl_eq, if_neg (by omega), if_pos h'.1.1, if_pos (h'.1.g (by omega) (by omega)), h'.1.2.1, h'.ln, if_neg (by omega), if_neg (by omega)]
  · rw [if_neg (fun y => z ⟨y.1, y.2.2⟩)]
    refine xX12_least (Rn.ret ?_)
    rw [eX12_least_0, if_pos h.1.1, wl_eq, if_pos h'.1.1, if_pos (h'.1.g (by omega) (by omega)), h'.1.2.1, h'.ln]
    by_cases c1 : i < 0
    · rw [if_pos c1]
    · rw [if_neg c1]
      by_cases c2 : nT A < j
      · rw [if_pos c2]
      · rw [if_neg c2, if_pos (by omega)]
abbrev nB (n : Int) : Int := if n = 0 then 0 else if n < 3 then 1 else 3
abbrev nS (n : Int) : Int := if n = 0 then 2 else if n < 3 then 1 else 0
theorem o_inNode {n c : Int} (hn : 0 ≤ n ∧ n ≤ 6) (h0 : 0 ≤ c) (h8 : c < 8) : Ex pro (d + 1) 228 w [iV n, iV c] = some (some (iV (if f_ishr c (nS n + 1) = n - nB n then 1 else 0)), w) := by
  obtain ⟨e3, e2, e1⟩ := shr8 h0 h8
  refine xX12_isInNode (Rn.ret ?_)
  rw [eX12_isInNode_0]
  unfold nS nB
  by_cases c0 : n = 0
  · rw [if_pos c0, if_pos c0, if_pos c0, show (2 : Int) + 1 = 3 by decide, e3, if_pos (by omega)]
  · rw [if_neg c0, if_neg c0, if_neg c0]
    by_cases c3 : n < 3
    · rw [if_pos c3, if_pos c3, if_pos c3, if_neg (by decide), Int.tdiv_eq_ediv_of_nonneg h0, w32_eq (by omega) (by omega), w32_eq (by omega) (by omega), show (1 : Int) + 1 = 2 by decide, e2]
      by_cases z : c / 4 = n - 1
      · rw [if_pos z, if_pos z]
      · rw [if_neg z, if_neg z, if_neg (by omega)]
    · rw [if_neg c3, if_neg c3, if_neg c3, if_pos (by omega), if_neg (by decide), Int.tdiv_eq_ediv_of_nonneg h0, w32_eq (by omega) (by omega), w32_eq (by omega) (by omega), show (0 : Int) + 1 = 1 by decide, e1]
      by_cases z : c / 2 = n - 3
      · rw [if_pos z, if_pos z]
      · rw [if_neg z, if_neg z]
theorem l_mNode (h : MoI w m A) {n i : Int} (hn : 0 ≤ n ∧ n ≤ 6) : ∀ (f : Nat) (y p : Int), p + f = nT A → 0 ≤ p → 0 ≤ y → y ≤ p → Rn (Ex pro (d + 1)) mX12_node (26, [some (rV m), some (iV n), some (iV i), some (iV y), some (iV p), none], [], w) (some (iV (ndb (tT A) (n - nB n) (nS n) i y p f)), w)
  | 0, y, p, hp, h0, hy, hyp => by
    refine Rn.ret ?_
    rw [eX12_node_26, if_pos h.1.1, if_pos (h.1.g (by omega) (by omega)), h.1.2.1, h.ln, if_neg (by omega)]
    rfl
  | f + 1, y, p, hp, h0, hy, hyp => by
    have l2 := h.l2
    have hg := h.1.g (j := 2616 + p) (by omega) (by omega)
    rw [h.1.2.1] at hg
    have t := h.tx h0 (i := p) (by omega)
    by_cases z : f_ishr (tT A p) (nS n + 1) = n - nB n
    · by_cases z2 : y = i
      · rw [show ndb (tT A) (n - nB n) (nS n) i y p (f + 1) = f_iand (f_ishr (tT A p) (nS n)) 1 by simp only [ndb]; rw [if_pos z, if_pos z2]]
        refine Rn.ret ?_
        rw [eX12_node_26, if_pos h.1.1, if_pos (h.1.g (by omega) (by omega)), h.1.2.1, h.ln, if_pos (by omega), if_pos h.1.1, w32_eq (x := 2616 + p) (by omega) (by omega), if_pos hg, t.1, o_inNode hn t.2.1 t.2.2]
        simp only [bI, ite10]
        rw [if_pos z, if_pos z2]
        unfold nS
        split
        · rfl
        · split <;> rfl
      · have ih := l_mNode h hn (i := i) f (y + 1) (p + 1) (by omega) (by omega) (by omega) (by omega)
        rw [show ndb (tT A) (n - nB n) (nS n) i y p (f + 1) = ndb (tT A) (n - nB n) (nS n) i (y + 1) (p + 1) f by simp only [ndb]; rw [if_pos z, if_neg z2]]
        refine Rn.cut ?_ ih
        rw [eX12_node_26, if_pos h.1.1, if_pos (h.1.g (by omega) (by omega)), h.1.2.1, h.ln, if_pos (by omega), if_pos h.1.1, w32_eq (x := 2616 + p) (by omega) (by omega), if_pos hg, t.1, o_inNode hn t.2.1 t.2.2]
        simp only [bI, ite10]
        rw [if_pos z, if_neg z2, w32_eq (by omega) (by omega), w32_eq (by omega) (by omega)]
    · have ih := l_mNode h hn (i := i) f y (p + 1) (by omega) (by omega) (by omega) (by omega)
      rw [show ndb (tT A) (n - nB n) (nS n) i y p (f + 1) = ndb (tT A) (n - nB n) (nS n) i y (p + 1) f by simp only [ndb]; rw [if_neg z]]
      refine Rn.cut ?_ ih
      rw [eX12_node_26, if_pos h.1.1, if_pos (h.1.g (by omega) (by omega)), h.1.2.1, h.ln, if_pos (by omega), if_pos h.1.1, w32_eq (x := 2616 + p) (by omega) (by omega), if_pos hg, t.1, o_inNode hn t.2.1 t.2.2]
      simp only [bI, ite10]
      rw [if_neg z, w32_eq (by omega) (by omega)]
theorem q_node (h : MoI w m A) (n i : Int) : Ex pro (d + 2) 229 w [rV m, iV n, iV i] = some (some (iV (if (0 ≤ n ∧ n ≤ 6) ∧ 0 ≤ i then nodF A.2.2.2.2 n i else -1)), sv w m 0 0) := by
  have h' := h.t0
  have l2 := h.l2
  by_cases z : (0 ≤ n ∧ n ≤ 6) ∧ 0 ≤ i
  · have l := l_mNode (d := d) h' (i := i) z.1 (nT A).toNat 0 0 (by omega) (by omega) (by omega) (by omega)
    rw [if_pos z]
    refine xX12_node (Rn.cut ?_ l)
    rw [eX12_node_0, if_pos h.1.1, wl_eq, o_isIn]
    simp only [bI, ite10]
    rw [if_pos z.1, if_neg (by omega)]
  · rw [if_neg z]
    refine xX12_node (Rn.ret ?_)
    rw [eX12_node_0, if_pos h.1.1, wl_eq, o_isIn]
    simp only [bI, ite10]
    by_cases c1 : 0 ≤ n ∧ n ≤ 6
    · rw [if_pos c1, if_pos (by have := fun y => z ⟨c1, y⟩; omega)]
    · rw [if_neg c1]
end MQ4
