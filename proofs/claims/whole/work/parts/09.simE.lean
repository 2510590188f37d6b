/-! ===== worlds: reads, writes, new cells ===== -/
theorem okV_kd {w w' : sW} (h : ∀ r, kd w' r = kd w r) {v : sV} : okV w' v ↔ okV w v := by
  rcases v with x | x | r
  · exact Iff.rfl
  · exact Iff.rfl
  · show (r = 0 ∨ kd w' r ≠ 0) ↔ (r = 0 ∨ kd w r ≠ 0)
    rw [h r]
/-- a world of the same shapes, other only in the cell r -/
theorem WFw.upd {L : Nat} {xs : Nat → Int32} {w w' : sW} {r : Int} (h : WFw L xs w) (hs : w'.1 = w.1) (hn : nx w' = nx w) (hg : ∀ a j, a ≠ r → gv w' a j = gv w a j) (h32 : 32 ≤ r) (hc : okC w' r) : WFw L xs w' := by
  have hkd : ∀ a, kd w' a = kd w a := fun a => by unfold kd; rw [hs]
  have hln : ∀ a, ln w' a = ln w a := fun a => by unfold ln; rw [hs]
  obtain ⟨h1, h2, h3, h4, h5, h6⟩ := h
  refine ⟨by rw [hn]; exact h1, fun k hk => ?_, ⟨by rw [hs]; exact h3.1, fun j hj => ?_⟩, ⟨by rw [hs]; exact h4.1, fun j hj => ?_⟩, fun a ha => ?_, fun a h7 h8 => ?_⟩
  · obtain ⟨q1, q2, q3, q4⟩ := h2 k hk
    have hne : (k : Int) + 1 ≠ r := by omega
    exact ⟨by rw [hs]; exact q1, by rw [hg _ _ hne]; exact q2, by rw [hg _ _ hne]; exact q3, by rw [hg _ _ hne]; exact q4⟩
  · rw [hg _ _ (by omega)]; exact h3.2 j hj
  · rw [hg _ _ (by omega)]; exact h4.2 j hj
  · rw [hkd]; rw [hn] at ha; exact h5 a ha
  · by_cases e : a = r
    · rw [e]; exact hc
    · rw [hn] at h8
      have := h6 a h7 h8
      unfold okC at this ⊢
      simp only [hkd, hln, hg _ _ e, okV_kd hkd]
      exact this
theorem va_rf_mv (adr : Int → Nat) (r : Int) : mvV adr (.inr (.inr r)) = va_rf (rO adr r) := by
  show (if r = 0 then Value.null else Value.ref (adr r)) = va_rf (if r = 0 then none else some (adr r))
  split <;> rfl
theorem mv_ref {adr : Int → Nat} {r : Int} (h : r ≠ 0) : mvV adr (.inr (.inr r)) = .ref (adr r) := if_neg h
section ARR
variable {cA : Nat → ClassId} {adr : Int → Nat} {w : sW} {r : Int}
theorem cell_int (h : kd w r = 20) : cellOf cA adr w r = .inl (cA 0, (ln w r).toNat, .inl (fun j : Nat => Int32.ofInt (gv w r j))) := by
  simp [cellOf, h]
theorem cell_byte (h : kd w r = 21) : cellOf cA adr w r = .inl (cA 1, (ln w r).toNat, .inl (fun j : Nat => Int32.ofInt (gv w r j))) := by
  simp [cellOf, h]
theorem cell_long (h : kd w r = 22) : cellOf cA adr w r = .inl (cA 2, (ln w r).toNat, .inr (.inl (fun j : Nat => Int64.ofInt (gv w r j)))) := by
  simp [cellOf, h]
theorem cell_bool (h : kd w r = 23) : cellOf cA adr w r = .inl (cA 3, (ln w r).toNat, .inl (fun j : Nat => Int32.ofInt (gv w r j))) := by
  simp [cellOf, h]
theorem cell_ref {n : Nat} (h : kd w r = ((n + 24 : Nat) : Int)) (hn : n < 4) : cellOf cA adr w r = .inl (cA (n + 4), (ln w r).toNat, .inr (.inr (.inr (.inr (fun j : Nat => rO adr (gv w r j)))))) := by
  unfold cellOf
  rw [if_neg (by omega), if_pos (by omega), show (kd w r).toNat - 20 = n + 4 by omega]
theorem cell_obj {n : Nat} (h : kd w r = ((n + 1 : Nat) : Int)) (hn : n < 10) : cellOf cA adr w r = .inr (n, fldO adr w r) := by
  unfold cellOf
  rw [if_neg (by omega), if_neg (by omega), if_neg (by omega), show (kd w r).toNat - 1 = n by omega]
end ARR
theorem fldO_get {adr : Int → Nat} {w : sW} {r : Int} {k : Nat} (h : k < nF (kd w r)) : (fldO adr w r)[k]? = some (mvV adr (mkV (fT (kd w r) k) (gv w r k))) := by
  unfold fldO
  rw [List.getElem?_map, List.getElem?_range h]
  rfl
theorem fldO_len {adr : Int → Nat} {w : sW} {r : Int} : (fldO adr w r).length = nF (kd w r) := by simp [fldO]
theorem fldO_set {adr : Int → Nat} {w : sW} {r v : Int} {k : Nat} (h : k < nF (kd w r)) : fldO adr (sv w r k v) r = (fldO adr w r).set k (mvV adr (mkV (fT (kd w r) k) v)) := by
  unfold fldO
  apply List.ext_getElem?
  intro i
  rw [List.getElem?_set, List.getElem?_map, kd_sv]
  by_cases hi : i < nF (kd w r)
  · rw [List.getElem?_range hi]
    by_cases e : k = i
    · subst e
      rw [if_pos rfl, if_pos (by simpa using hi)]
      simp [gv_sv]
    · rw [if_neg e]
      have : ¬ ((i : Int) = (k : Int)) := by omega
      simp [gv_sv, this, List.getElem?_range hi]
  · rw [List.getElem?_eq_none (by simp; omega)]
    by_cases e : k = i
    · omega
    · rw [if_neg e, List.getElem?_eq_none (by simp; omega)]
      rfl
theorem upd_of {w : sW} {r i v : Int} (h0 : 0 ≤ i) (x : Int32) (hx : x = Int32.ofInt v) : upd (fun j : Nat => Int32.ofInt (gv w r j)) i.toNat x = fun j : Nat => Int32.ofInt (gv (sv w r i v) r j) := by
  funext j
  rw [gv_sv]
  unfold upd
  by_cases e : j = i.toNat
  · rw [if_pos e, if_pos ⟨rfl, by omega⟩, hx]
  · rw [if_neg e, if_neg (fun z => e (by omega))]
theorem updL_of {w : sW} {r i v : Int} (h0 : 0 ≤ i) : vp_updL (fun j : Nat => Int64.ofInt (gv w r j)) i.toNat (Int64.ofInt v) = fun j : Nat => Int64.ofInt (gv (sv w r i v) r j) := by
  funext j
  rw [gv_sv]
  unfold vp_updL
  by_cases e : j = i.toNat
  · rw [if_pos e, if_pos ⟨rfl, by omega⟩]
  · rw [if_neg e, if_neg (fun z => e (by omega))]
theorem updR_of {adr : Int → Nat} {w : sW} {r i v : Int} (h0 : 0 ≤ i) (hv : v ≠ 0) : va_up (fun j : Nat => rO adr (gv w r j)) i.toNat (some (adr v)) = fun j : Nat => rO adr (gv (sv w r i v) r j) := by
  funext j
  rw [gv_sv]
  unfold va_up
  by_cases e : j = i.toNat
  · rw [if_pos e, if_pos ⟨rfl, by omega⟩]
    exact (if_neg hv).symm
  · rw [if_neg e, if_neg (fun z => e (by omega))]
/-- a write into an array keeps the world sound -/
theorem okC_sva {w : sW} {r i v : Int} (h : okC w r) (h20 : 20 ≤ kd w r) (hv : okV w (mkV (elT (kd w r)) v)) (hb : kd w r = 21 → -128 ≤ v ∧ v < 128) : okC (sv w r i v) r := by
  rcases h with h | h
  · omega
  · right
    refine ⟨h.1, h.2.1, fun j => ?_, fun hk j => ?_⟩
    · rw [gv_sv, kd_sv]
      rw [okV_kd (kd_sv w r i v)]
      split
      · exact hv
      · exact h.2.2.1 j
    · rw [gv_sv]
      split
      · exact hb hk
      · exact h.2.2.2 hk j
theorem okC_svo {w : sW} {r v : Int} {k : Nat} (h : okC w r) (h10 : kd w r ≤ 10) (hv : okV w (mkV (fT (kd w r) k) v)) : okC (sv w r k v) r := by
  rcases h with h | h
  · left
    refine ⟨h.1, fun j => ?_⟩
    rw [gv_sv, kd_sv, okV_kd (kd_sv w r k v)]
    by_cases e : (j : Int) = (k : Int)
    · rw [if_pos ⟨rfl, e⟩]
      have : j = k := by omega
      rw [this]; exact hv
    · rw [if_neg (fun z => e z.2)]
      exact h.2 j
  · omega
theorem RW.live {K : LC} {w : sW} {adr : Int → Nat} {H : Heap} (h : RW K w adr H) {r : Int} (h1 : 32 ≤ r) (h2 : kd w r ≠ 0) : r < nx w ∧ okC w r := ⟨h.1.lt r h2, h.1.2.2.2.2.2 r h1 (h.1.lt r h2)⟩
theorem kd_big {L : Nat} {xs : Nat → Int32} {w : sW} (h : WFw L xs w) {r : Int} (hk : (1 ≤ kd w r ∧ kd w r ≤ 10) ∨ (21 ≤ kd w r ∧ kd w r ≤ 26)) : 32 ≤ r := by
  have hp := h.pos r (by omega)
  rcases hp.2 with q | q
  · exfalso
    by_cases e24 : r = 24
    · subst e24
      have := h.2.2.1.1
      unfold kd at hk
      rw [this] at hk
      simp at hk
    · by_cases e25 : r = 25
      · subst e25
        have := h.2.2.2.1.1
        unfold kd at hk
        rw [this] at hk
        simp at hk
      · have := (h.2.1 (r - 1).toNat (by omega)).1
        rw [show (((r - 1).toNat : Nat) : Int) + 1 = r by omega] at this
        unfold kd at hk
        rw [this] at hk
        simp at hk
  · exact q
theorem kd_30 {L : Nat} {xs : Nat → Int32} {w : sW} (h : WFw L xs w) {r : Int} (hk : kd w r = 30) : ∃ k : Nat, k < 23 ∧ r = (k : Int) + 1 := by
  have hp := h.pos r (by omega)
  rcases hp.2 with q | q
  · by_cases e24 : r = 24
    · subst e24
      have := h.2.2.1.1
      unfold kd at hk
      rw [this] at hk
      simp at hk
    · by_cases e25 : r = 25
      · subst e25
        have := h.2.2.2.1.1
        unfold kd at hk
        rw [this] at hk
        simp at hk
      · exact ⟨(r - 1).toNat, by omega, by omega⟩
  · have := h.2.2.2.2.2 r q (h.lt r (by omega))
    rcases this with z | z
    · omega
    · omega
theorem kd_small {L : Nat} {xs : Nat → Int32} {w : sW} (h : WFw L xs w) {r : Int} (hs : r < 32) (hk : 20 ≤ kd w r ∧ kd w r ≤ 27) : (r = 24 ∧ kd w r = 27 ∧ ln w r = 23) ∨ (r = 25 ∧ kd w r = 20 ∧ ln w r = (L : Int)) := by
  have hp := h.pos r (by omega)
  rcases hp.2 with q | q
  · by_cases e24 : r = 24
    · subst e24
      have := h.2.2.1.1
      left
      unfold kd ln
      rw [this]
      simp
    · by_cases e25 : r = 25
      · subst e25
        have := h.2.2.2.1.1
        right
        unfold kd ln
        rw [this]
        simp
      · exfalso
        have := (h.2.1 (r - 1).toNat (by omega)).1
        rw [show (((r - 1).toNat : Nat) : Int) + 1 = r by omega] at this
        unfold kd at hk
        rw [this] at hk
        simp at hk
  · omega
