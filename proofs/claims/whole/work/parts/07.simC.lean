/-! ===== what a pop, a load, a store says ===== -/
theorem pI_s {α : Type} {st : List sV} {f : Int → List sV → Option α} {o : α} (h : pI st f = some o) : ∃ x r, st = .inl x :: r ∧ f x r = some o := by
  unfold pI at h
  split at h
  · exact ⟨_, _, rfl, h⟩
  · cases h
theorem pL_s {α : Type} {st : List sV} {f : Int → List sV → Option α} {o : α} (h : pL st f = some o) : ∃ x r, st = .inr (.inl x) :: r ∧ f x r = some o := by
  unfold pL at h
  split at h
  · exact ⟨_, _, rfl, h⟩
  · cases h
theorem pR_s {α : Type} {st : List sV} {f : Int → List sV → Option α} {o : α} (h : pR st f = some o) : ∃ x r, st = .inr (.inr x) :: r ∧ f x r = some o := by
  unfold pR at h
  split at h
  · exact ⟨_, _, rfl, h⟩
  · cases h
theorem p1_s {α : Type} {st : List sV} {f : sV → List sV → Option α} {o : α} (h : p1 st f = some o) : ∃ v r, st = v :: r ∧ catS v = 1 ∧ f v r = some o := by
  unfold p1 at h
  split at h
  · rename_i v r
    cases hc : Nat.beq (catS v) 1 with
    | true => rw [hc] at h; exact ⟨_, _, rfl, Nat.eq_of_beq_eq_true hc, h⟩
    | false => rw [hc] at h; cases h
  · cases h
theorem p0_s {α : Type} {st : List sV} {f : Option α} {o : α} (h : p0 st f = some o) : st = [] ∧ f = some o := by
  unfold p0 at h
  split at h
  · exact ⟨rfl, h⟩
  · cases h
theorem popN_s : ∀ (n : Nat) (acc st as r : List sV), popN n acc st = some (as, r) → ∃ p, as = p.reverse ++ acc ∧ st = p ++ r ∧ p.length = n
  | 0, acc, st, as, r, h => by
    simp only [popN, Option.some.injEq, Prod.mk.injEq] at h
    exact ⟨[], by simp [h.1], by simp [h.2], rfl⟩
  | n + 1, acc, [], as, r, h => by simp [popN] at h
  | n + 1, acc, v :: st, as, r, h => by
    simp only [popN] at h
    obtain ⟨p, h1, h2, h3⟩ := popN_s n (v :: acc) st as r h
    exact ⟨v :: p, by simp [h1], by simp [h2], by simp [h3]⟩
theorem pN_s {α : Type} {n : Nat} {st : List sV} {f : List sV → List sV → Option α} {o : α} (h : pN n st f = some o) : ∃ as r, st = as.reverse ++ r ∧ as.length = n ∧ f as r = some o := by
  unfold pN at h
  split at h
  · rename_i as r e
    obtain ⟨p, h1, h2, h3⟩ := popN_s _ _ _ _ _ e
    refine ⟨as, r, ?_, ?_, h⟩
    · rw [h1, h2]; simp
    · rw [h1]; simp [h3]
  · cases h
theorem ldI_s {α : Type} {ls : sL} {i : Nat} {k : Int → Option α} {o : α} (h : ldI ls i k = some o) : ∃ x, ls[i]? = some (some (.inl x)) ∧ k x = some o := by
  unfold ldI at h
  split at h
  · rename_i x e
    exact ⟨x, e, h⟩
  · cases h
theorem ldL_s {α : Type} {ls : sL} {i : Nat} {k : Int → Option α} {o : α} (h : ldL ls i k = some o) : ∃ x, ls[i]? = some (some (.inr (.inl x))) ∧ k x = some o := by
  unfold ldL at h
  split at h
  · rename_i x e
    exact ⟨x, e, h⟩
  · cases h
theorem ldR_s {α : Type} {ls : sL} {i : Nat} {k : Int → Option α} {o : α} (h : ldR ls i k = some o) : ∃ x, ls[i]? = some (some (.inr (.inr x))) ∧ k x = some o := by
  unfold ldR at h
  split at h
  · rename_i x e
    exact ⟨x, e, h⟩
  · cases h
theorem st1_s {α : Type} {ls : sL} {i : Nat} {v : sV} {k : sL → Option α} {o : α} (h : st1 ls i v k = some o) : i < ls.length ∧ isLp ls i = false ∧ k (ls.set i (some v)) = some o := by
  unfold st1 at h
  cases hc : (Nat.blt i ls.length && !isLp ls i) with
  | true =>
    rw [hc] at h
    simp only [Bool.and_eq_true, Bool.not_eq_true'] at hc
    exact ⟨by simpa [Nat.blt_eq] using hc.1, hc.2, h⟩
  | false => rw [hc] at h; cases h
theorem st2_s {α : Type} {ls : sL} {i : Nat} {v : sV} {k : sL → Option α} {o : α} (h : st2 ls i v k = some o) : i + 1 < ls.length ∧ isLp ls i = false ∧ k ((ls.set i (some v)).set (i + 1) none) = some o := by
  unfold st2 at h
  cases hc : (Nat.blt (i + 1) ls.length && !isLp ls i) with
  | true =>
    rw [hc] at h
    simp only [Bool.and_eq_true, Bool.not_eq_true'] at hc
    exact ⟨by simpa [Nat.blt_eq] using hc.1, hc.2, h⟩
  | false => rw [hc] at h; cases h
theorem a1_s {α : Type} {ax : List Int} {f : Int → Option α} {o : α} (h : aC ax none f no2 = some o) : ∃ x, ax = [x] ∧ f x = some o := by
  unfold aC at h
  split at h
  · cases h
  · exact ⟨_, rfl, h⟩
  · cases h
  · cases h
theorem a2_s {α : Type} {ax : List Int} {f : Int → Int → Option α} {o : α} (h : aC ax none no1 f = some o) : ∃ x y, ax = [x, y] ∧ f x y = some o := by
  unfold aC at h
  split at h
  · cases h
  · cases h
  · exact ⟨_, _, rfl, h⟩
  · cases h
theorem n2_s {α : Type} {nn : List Nat} {f : Nat → Nat → Option α} {o : α} (h : nC nn none nn1 f = some o) : ∃ x y, nn = [x, y] ∧ f x y = some o := by
  unfold nC at h
  split at h
  · cases h
  · cases h
  · exact ⟨_, _, rfl, h⟩
  · cases h
theorem if_s {α : Type} {c : Prop} {d : Decidable c} {a : Option α} {o : α} (h : (@ite _ c d a none) = some o) : c ∧ a = some o := by
  by_cases hc : c
  · rw [if_pos hc] at h; exact ⟨hc, h⟩
  · rw [if_neg hc] at h; cases h
/-! ===== frames ===== -/
theorem lvs_mem {adr : Int → Nat} : ∀ (ls : sL) (n i : Nat) (v : sV), ls[i]? = some (some v) → (n + i, mvV adr v) ∈ lvs adr ls n
  | [], n, i, v, h => by simp at h
  | none :: r, n, 0, v, h => by simp at h
  | some u :: r, n, 0, v, h => by
    simp only [List.getElem?_cons_zero, Option.some.injEq] at h
    subst h
    simp [lvs]
  | none :: r, n, i + 1, v, h => by
    have := lvs_mem (adr := adr) r (n + 1) i v (by simpa using h)
    rw [show n + (i + 1) = n + 1 + i by omega]
    exact this
  | some u :: r, n, i + 1, v, h => by
    have := lvs_mem (adr := adr) r (n + 1) i v (by simpa using h)
    rw [show n + (i + 1) = n + 1 + i by omega]
    exact List.mem_cons_of_mem _ this
theorem mem_lvs {adr : Int → Nat} : ∀ (ls : sL) (n : Nat) (q : Nat × Value), q ∈ lvs adr ls n → ∃ i v, ls[i]? = some (some v) ∧ q = (n + i, mvV adr v)
  | [], n, q, h => by simp [lvs] at h
  | none :: r, n, q, h => by
    obtain ⟨i, v, h1, h2⟩ := mem_lvs r (n + 1) q h
    exact ⟨i + 1, v, by simpa using h1, by rw [h2, show n + 1 + i = n + (i + 1) by omega]⟩
  | some u :: r, n, q, h => by
    rcases List.mem_cons.mp h with h | h
    · exact ⟨0, u, by simp, by rw [h]; rfl⟩
    · obtain ⟨i, v, h1, h2⟩ := mem_lvs r (n + 1) q h
      exact ⟨i + 1, v, by simpa using h1, by rw [h2, show n + 1 + i = n + (i + 1) by omega]⟩
theorem lvh_at {adr : Int → Nat} {lsM : Array Slot} {nL : Nat} {ls : sL} {i : Nat} {v : sV} (h : lv_has lsM nL (lvs adr ls 0)) (hi : ls[i]? = some (some v)) : lsM[i]? = some (.val (mvV adr v)) := by
  have := h.2.2 _ (lvs_mem ls 0 i v hi)
  simpa using this
theorem lvh_sub {adr adr' : Int → Nat} {lsM : Array Slot} {nL : Nat} {ls ls' : sL} (h : lv_has lsM nL (lvs adr ls 0)) (hs : ∀ (i : Nat) (v : sV), ls'[i]? = some (some v) → ls[i]? = some (some v) ∧ mvV adr' v = mvV adr v) : lv_has lsM nL (lvs adr' ls' 0) := by
  refine ⟨h.1, h.2.1, fun q hq => ?_⟩
  obtain ⟨i, v, h1, rfl⟩ := mem_lvs _ _ _ hq
  obtain ⟨h2, h3⟩ := hs i v h1
  rw [h3]
  exact h.2.2 _ (lvs_mem ls 0 i v h2)
theorem cat_mv (adr : Int → Nat) (v : sV) : (mvV adr v).category = catS v := by
  rcases v with x | x | r
  · rfl
  · rfl
  · show (if r = 0 then Value.null else Value.ref (adr r)).category = 1
    split <;> rfl
theorem catSum_mv (adr : Int → Nat) : ∀ st : List sV, ((st.map (mvV adr)).map fun v => v.category).sum = catSum st
  | [] => rfl
  | v :: r => by
    simp only [List.map_cons, List.sum_cons, catSum, cat_mv]
    rw [catSum_mv adr r]
theorem isLp_no {ls : sL} {i j : Nat} {v : sV} (h : isLp ls i = false) (hj : j + 1 = i) (hv : ls[j]? = some (some v)) : catS v = 1 := by
  subst hj
  simp only [isLp, hv] at h
  rcases v with x | x | r
  · rfl
  · simp [isL] at h
  · rfl
theorem lvh_set1 {adr : Int → Nat} {lsM' : Array Slot} {nL : Nat} {ls : sL} {i : Nat} {v : sV} (hp : isLp ls i = false) (h : lv_has lsM' nL ((i, mvV adr v) :: (lvs adr ls 0).filter (fun q => !(q.1 == i) && !(q.1 + 1 == i && q.2.category == 2)))) : lv_has lsM' nL (lvs adr (ls.set i (some v)) 0) := by
  refine ⟨h.1, h.2.1, fun q hq => h.2.2 q ?_⟩
  obtain ⟨j, u, h1, rfl⟩ := mem_lvs _ _ _ hq
  rw [List.getElem?_set] at h1
  by_cases e : i = j
  · subst e
    rw [if_pos rfl] at h1
    split at h1
    · simp only [Option.some.injEq] at h1
      rw [← h1]
      simp
    · cases h1
  · rw [if_neg e] at h1
    refine List.mem_cons_of_mem _ (List.mem_filter.mpr ⟨lvs_mem ls 0 j u h1, ?_⟩)
    simp only [Nat.zero_add, Bool.and_eq_true, Bool.not_eq_true', beq_eq_false_iff_ne, ne_eq, Bool.and_eq_false_iff]
    refine ⟨fun z => e z.symm, ?_⟩
    by_cases e2 : j + 1 = i
    · right
      rw [cat_mv, isLp_no hp e2 h1]
      decide
    · left
      exact e2
theorem lvh_set2 {adr : Int → Nat} {lsM' : Array Slot} {nL : Nat} {ls : sL} {i : Nat} {v : sV} (hp : isLp ls i = false) (h : lv_has lsM' nL ((i, mvV adr v) :: (lvs adr ls 0).filter (fun q => !(q.1 == i) && (!(q.1 == i + 1) && !(q.1 + 1 == i && q.2.category == 2))))) : lv_has lsM' nL (lvs adr ((ls.set i (some v)).set (i + 1) none) 0) := by
  refine ⟨h.1, h.2.1, fun q hq => h.2.2 q ?_⟩
  obtain ⟨j, u, h1, rfl⟩ := mem_lvs _ _ _ hq
  rw [List.getElem?_set] at h1
  by_cases e0 : i + 1 = j
  · rw [if_pos e0] at h1
    split at h1 <;> cases h1
  · rw [if_neg e0, List.getElem?_set] at h1
    by_cases e : i = j
    · subst e
      rw [if_pos rfl] at h1
      split at h1
      · simp only [Option.some.injEq] at h1
        rw [← h1]
        simp
      · cases h1
    · rw [if_neg e] at h1
      refine List.mem_cons_of_mem _ (List.mem_filter.mpr ⟨lvs_mem ls 0 j u h1, ?_⟩)
      simp only [Nat.zero_add, Bool.and_eq_true, Bool.not_eq_true', beq_eq_false_iff_ne, ne_eq, Bool.and_eq_false_iff]
      refine ⟨fun z => e z.symm, fun z => e0 z.symm, ?_⟩
      by_cases e2 : j + 1 = i
      · right
        rw [cat_mv, isLp_no hp e2 h1]
        decide
      · left
        exact e2
theorem okL_at {w : sW} {ls : sL} {i : Nat} {v : sV} (h : okL w ls) (hi : ls[i]? = some (some v)) : okV w v := h v (List.mem_of_getElem? hi)
theorem okL_set {w : sW} {ls : sL} {i : Nat} {v : sV} (h : okL w ls) (hv : okV w v) : okL w (ls.set i (some v)) := by
  intro u hu
  rcases List.mem_or_eq_of_mem_set hu with q | q
  · exact h u q
  · rw [Option.some.inj q]; exact hv
theorem okL_setn {w : sW} {ls : sL} {i : Nat} (h : okL w ls) : okL w (ls.set i none) := by
  intro u hu
  rcases List.mem_or_eq_of_mem_set hu with q | q
  · exact h u q
  · cases q
