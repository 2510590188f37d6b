/-! ===== stores of references, lengths, new cells, arraycopy, max and min, switches (printed by wip/whole/simh.py) ===== -/
theorem c8_s {α : Type} {st : List sV} {f : Option α} {o : α} (h : c8 st f = some o) : catSum st ≤ 8 ∧ f = some o := by
  unfold c8 at h
  cases hc : Nat.ble (catSum st) 8 with
  | true => rw [hc] at h; exact ⟨Nat.le_of_ble_eq_true hc, h⟩
  | false => rw [hc] at h; cases h
def swt (d : Nat) (x : Int) : List (Int × Nat) → Nat
  | [] => d
  | (c, t) :: r => if x = c then t else swt d x r
theorem swi_eq {α : Type} (x : Int) (d : Nat) (k : Nat → Option α) : ∀ l : List (Int × Nat), swi x d k l = k (swt d x l)
  | [] => rfl
  | (c, t) :: r => by
    simp only [swi, swt]
    split
    · rfl
    · exact swi_eq x d k r
theorem swt_look {pc d : Nat} {x dflt : Int} : ∀ (ps : List (Int × Int)) (sw : List (Int × Nat)), sw = ps.map (fun q => (q.1, ((pc : Int) + q.2).toNat)) → (∀ q ∈ ps, 0 ≤ (pc : Int) + q.2) → (pc : Int) + dflt = (d : Int) → (pc : Int) + Op.lookupswitch.offset ps dflt x = (swt d x sw : Int)
  | [], sw, h, _, hd => by
    subst h
    exact hd
  | (a, f) :: r, sw, h, hp, hd => by
    subst h
    simp only [List.map_cons, swt, Op.lookupswitch.offset_cons]
    by_cases e : a = x
    · rw [if_pos e, if_pos e.symm]
      have := hp (a, f) List.mem_cons_self
      simp only at this
      omega
    · rw [if_neg e, if_neg (fun z => e z.symm)]
      exact swt_look r _ rfl (fun q hq => hp q (List.mem_cons_of_mem _ hq)) hd
/-- the cases of a tableswitch, from lo on -/
def tsw (pc : Nat) : Int → List Int → List (Int × Nat)
  | _, [] => []
  | lo, f :: r => (lo, ((pc : Int) + f).toNat) :: tsw pc (lo + 1) r
theorem swt_in {pc d : Nat} {x : Int} : ∀ (l : List Int) (lo : Int) (i : Nat) (f : Int), l[i]? = some f → x = lo + i → (∀ q ∈ l, 0 ≤ (pc : Int) + q) → (pc : Int) + f = (swt d x (tsw pc lo l) : Int)
  | [], lo, i, f, h, _, _ => by simp at h
  | g :: r, lo, 0, f, h, hx, hp => by
    simp only [List.getElem?_cons_zero, Option.some.injEq] at h
    subst h
    have := hp g List.mem_cons_self
    simp only [tsw, swt]
    rw [if_pos (by simpa using hx)]
    omega
  | g :: r, lo, i + 1, f, h, hx, hp => by
    simp only [tsw, swt]
    rw [if_neg (by omega)]
    exact swt_in r (lo + 1) i f (by simpa using h) (by omega) (fun q hq => hp q (List.mem_cons_of_mem _ hq))
theorem swt_out {pc d : Nat} {x : Int} : ∀ (l : List Int) (lo : Int), (x < lo ∨ lo + l.length ≤ x) → swt d x (tsw pc lo l) = d
  | [], lo, _ => rfl
  | g :: r, lo, h => by
    simp only [tsw, swt]
    simp only [List.length_cons] at h
    rw [if_neg (by omega)]
    exact swt_out r (lo + 1) (by omega)
/-! new cells -/
def adrN (adr : Int → Nat) (w : sW) (q : Nat) : Int → Nat := fun a => if a = nx w then q else adr a
theorem adrN_old {adr : Int → Nat} {w : sW} {q : Nat} {a : Int} (h : a < nx w) : adrN adr w q a = adr a := if_neg (by omega)
theorem mv_eq {adr adr' : Int → Nat} {w : sW} (hz : ∀ r, kd w r ≠ 0 → r < nx w) (ha : ∀ r, r < nx w → adr' r = adr r) {v : sV} (h : okV w v) : mvV adr' v = mvV adr v := by
  rcases v with x | x | r
  · rfl
  · rfl
  · rcases h with h | h
    · subst h; rfl
    · show (if r = 0 then Value.null else Value.ref (adr' r)) = (if r = 0 then Value.null else Value.ref (adr r))
      rw [ha r (hz r h)]
theorem mkV2 (g : Int) : mkV 2 g = .inr (.inr g) := rfl
theorem cellOf_eq {cA : Nat → ClassId} {adr adr' : Int → Nat} {w w' : sW} {a : Int} (hz : ∀ r, kd w r ≠ 0 → r < nx w) (ha : ∀ r, r < nx w → adr' r = adr r) (hk : kd w' a = kd w a) (hl : ln w' a = ln w a) (hg : ∀ j, gv w' a j = gv w a j) (hc : okC w a) : cellOf cA adr' w' a = cellOf cA adr w a := by
  have hr : ∀ g, okV w (.inr (.inr g)) → rO adr' g = rO adr g := by
    intro g h
    unfold rO
    rcases h with h | h
    · rw [if_pos h, if_pos h]
    · rw [ha g (hz g h)]
  unfold cellOf
  rw [hk, hl]
  by_cases e1 : kd w a = 22
  · rw [if_pos e1, if_pos e1]; simp only [hg]
  rw [if_neg e1, if_neg e1]
  by_cases e2 : 24 ≤ kd w a ∧ kd w a ≤ 27
  · rw [if_pos e2, if_pos e2]
    have : ∀ j : Nat, rO adr' (gv w' a j) = rO adr (gv w a j) := fun j => by
      rw [hg]
      refine hr _ ?_
      have := (hc.resolve_left (by omega)).2.2.1 j
      have hel : elT (kd w a) = 2 := by unfold elT; rw [if_neg (by omega), if_pos e2]
      rw [hel] at this
      exact this
    simp only [this]
  rw [if_neg e2, if_neg e2]
  by_cases e3 : 20 ≤ kd w a
  · rw [if_pos e3, if_pos e3]; simp only [hg]
  rw [if_neg e3, if_neg e3]
  have : fldO adr' w' a = fldO adr w a := by
    unfold fldO
    rw [hk]
    refine List.map_congr_left fun k _ => ?_
    rw [hg]
    exact mv_eq hz ha ((hc.resolve_right (by omega)).2 k)
  rw [this]
theorem wsO_al {cA : Nat → ClassId} {adr : Int → Nat} {w : sW} {κ len : Int} {n q : Nat} {L : Nat} {xs : Nat → Int32} (h : WFw L xs w) : wsO cA (adrN adr w q) (al w κ len n) = wsO cA adr w ++ [(q, cellOf cA (adrN adr w q) (al w κ len n) (nx w))] := by
  unfold wsO
  have h32 := h.1
  rw [nx_al, show (nx w + 1 - 32).toNat = (nx w - 32).toNat + 1 by omega, List.range_succ, List.map_append]
  congr 1
  · refine List.map_congr_left fun j hj => ?_
    have hj' : j < (nx w - 32).toNat := List.mem_range.mp hj
    have hlt : 32 + (j : Int) < nx w := by omega
    have hne : ¬ 32 + (j : Int) = nx w := by omega
    rw [adrN_old hlt, cellOf_eq (w := w) h.lt (fun r hr => adrN_old hr) (by rw [kd_al, if_neg hne]) (by rw [ln_al, if_neg hne]) (fun i => by rw [gv_al, if_neg hne]) (h.2.2.2.2.2 _ (by omega) hlt)]
  · have : 32 + (((nx w - 32).toNat : Nat) : Int) = nx w := by omega
    simp only [List.map_cons, List.map_nil]
    rw [this]
    simp [adrN]
theorem WFw_al {L : Nat} {xs : Nat → Int32} {w : sW} {κ len : Int} {n : Nat} (h : WFw L xs w) (hκ : (1 ≤ κ ∧ κ ≤ 10) ∨ ((20 ≤ κ ∧ κ ≤ 27) ∧ 0 ≤ len ∧ len ≤ 100000)) : WFw L xs (al w κ len n) := by
  obtain ⟨h1, h2, h3, h4, h5, h6⟩ := id h
  have old : ∀ r, r < nx w → (al w κ len n).1 r = w.1 r ∧ ∀ j, gv (al w κ len n) r j = gv w r j := fun r hr => by
    refine ⟨?_, fun j => ?_⟩
    · show (if r = nx w then (κ, len) else w.1 r) = w.1 r
      rw [if_neg (by omega)]
    · rw [gv_al, if_neg (by omega)]
  have okv0 : ∀ t, okV (al w κ len n) (mkV t 0) := fun t => by
    match t with
    | 0 => exact in32_0
    | 1 => show in64 0; unfold in64; omega
    | 2 => exact Or.inl rfl
    | t + 3 => exact in32_0
  refine ⟨by rw [nx_al]; omega, fun k hk => ?_, ⟨by rw [(old 24 (by omega)).1]; exact h3.1, fun j hj => by rw [(old 24 (by omega)).2]; exact h3.2 j hj⟩, ⟨by rw [(old 25 (by omega)).1]; exact h4.1, fun j hj => by rw [(old 25 (by omega)).2]; exact h4.2 j hj⟩, fun r hr => ?_, fun r hr1 hr2 => ?_⟩
  · obtain ⟨q1, q2, q3, q4⟩ := h2 k hk
    obtain ⟨o1, o2⟩ := old ((k : Int) + 1) (by omega)
    exact ⟨by rw [o1]; exact q1, by rw [o2]; exact q2, by rw [o2]; exact q3, by rw [o2]; exact q4⟩
  · rw [nx_al] at hr
    rw [kd_al, if_neg (by omega)]
    exact h5 r (by omega)
  · rw [nx_al] at hr2
    by_cases e : r = nx w
    · have hk : kd (al w κ len n) r = κ := by rw [kd_al, if_pos e]
      have hl : ln (al w κ len n) r = len := by rw [ln_al, if_pos e]
      have hg : ∀ j, gv (al w κ len n) r j = 0 := fun j => by rw [gv_al, if_pos e]
      unfold okC
      rw [hk, hl]
      simp only [hg]
      rcases hκ with z | z
      · exact Or.inl ⟨z, fun k => okv0 _⟩
      · exact Or.inr ⟨z.1, z.2, fun j => okv0 _, fun _ _ => by omega⟩
    · have hlt : r < nx w := by omega
      have hc := h6 r hr1 hlt
      have hk : kd (al w κ len n) r = kd w r := by rw [kd_al, if_neg e]
      have hl : ln (al w κ len n) r = ln w r := by rw [ln_al, if_neg e]
      unfold okC at hc ⊢
      rw [hk, hl]
      simp only [(old r hlt).2]
      rcases hc with z | z
      · exact Or.inl ⟨z.1, fun k => (z.2 k).ext Ext.al h.lt⟩
      · exact Or.inr ⟨z.1, z.2.1, fun j => (z.2.2.1 j).ext Ext.al h.lt, z.2.2.2⟩
/-- behind a new cell: the frame in the new world -/
theorem al_frame {K : LC} {w w0 : sW} {adr adr0 : Int → Nat} {κ len : Int} {n q : Nat} {nL : Nat} {st : List sV} {ls : sL} {lsM : Array Slot} {L : Nat} {xs : Nat → Int32} (h : WFw L xs w) (ho : okS w st) (hL : okL w ls) (hl : lv_has lsM nL (lvs adr ls 0)) (hg : ∀ r, r < nx w0 → adr r = adr0 r) (hx : Ext w0 w) :
    okS (al w κ len n) st ∧ okL (al w κ len n) ls ∧ lv_has lsM nL (lvs (adrN adr w q) ls 0) ∧ (∀ r, r < nx w0 → adrN adr w q r = adr0 r) ∧ st.map (mvV (adrN adr w q)) = st.map (mvV adr) :=
  ⟨fun v hv => (ho v hv).ext Ext.al h.lt, fun v hv => (hL v hv).ext Ext.al h.lt,
    lvh_sub hl (fun i v hv => ⟨hv, mv_eq h.lt (fun r hr => adrN_old hr) (okL_at hL hv)⟩),
    fun r hr => by rw [adrN_old (Int.lt_of_lt_of_le hr hx.2.1)]; exact hg r hr,
    List.map_congr_left fun v hv => mv_eq h.lt (fun r hr => adrN_old hr) (ho v hv)⟩
theorem uc_al {w w0 : sW} {κ len : Int} {n : Nat} (hx : Ext w0 w) : uc (al w κ len n) - uc w0 = uc w - uc w0 + 1 ∧ us (al w κ len n) - us w0 = us w - us w0 + n := by
  have h1 := hx.2.2.1
  have h2 := hx.2.2.2
  have e1 : uc (al w κ len n) = uc w + 1 := rfl
  have e2 : us (al w κ len n) = us w + n := rfl
  omega
section SH
variable {Z : MZ} {K : LC} {w0 w : sW} {adr0 : Int → Nat} {C : sC} {ret tg pc : Nat} {nn : List Nat} {ax : List Int} {sw : List (Int × Nat)} {ls : sL} {st : List sV} {kr : Option sV → sW → Option sO} {k : Nat → sL → List sV → sW → Option sO} {o : sO}
theorem sm_tableswitch (B : BX Z K) {dflt lo hi : Int} {offs : Array Int} {len : Nat} (hr : sw = tsw pc lo offs.toList ∧ (∀ q ∈ offs.toList, 0 ≤ (pc : Int) + q) ∧ hi + 1 = lo + offs.toList.length ∧ (pc : Int) + dflt = (tg : Int)) (hd : decode (zC Z) pc = .ok (.tableswitch dflt lo hi offs, len)) (h : sx C ret (.tableswitch dflt lo hi offs) tg nn ax sw pc ls st w kr k = some o) (hk : KOK Z K w0 adr0 w k o) : AtM Z K w0 adr0 pc ls st w := by
  obtain ⟨x, r, hs, h'⟩ := pI_s h
  clear h
  subst hs
  have h := h'
  clear h'
  rw [swi_eq] at h
  intro adr H locs lsM hR hS ho hL hn hl hg hx
  have hx1 : in32 x := (okS_c.mp ho).1
  have hN := hk _ _ _ _ h Ext.rf adr H locs lsM hR hS (okS_c.mp ho).2 hL hn hl hg hx
  obtain ⟨e1, e2, e3, e4⟩ := hr
  by_cases hout : x < lo ∨ hi < x
  · rw [e1, swt_out _ _ (by omega)] at hN
    exact lv_tableOut B.1 B.2.1 hd (by rw [toI_of hx1]; exact hout) e4 hN
  · have hi' : (x - lo).toNat < offs.toList.length := by omega
    refine lv_tableIn (off := offs.toList[(x - lo).toNat]) (tgt := swt tg x sw) B.1 B.2.1 hd (by rw [toI_of hx1]; omega) (by rw [toI_of hx1]; omega) (by rw [toI_of hx1, ← Array.getElem?_toList]; exact List.getElem?_eq_getElem hi') ?_ hN
    rw [e1]
    exact swt_in _ _ (x - lo).toNat _ (List.getElem?_eq_getElem hi') (by omega) e2
theorem sm_lookupswitch (B : BX Z K) {dflt : Int} {ps : Array (Int × Int)} {len : Nat} (hr : sw = ps.toList.map (fun q => (q.1, ((pc : Int) + q.2).toNat)) ∧ (∀ q ∈ ps.toList, 0 ≤ (pc : Int) + q.2) ∧ (ps.toList.zip (ps.toList.drop 1)).all (fun (a, next) => a.1 < next.1) = true ∧ (pc : Int) + dflt = (tg : Int)) (hd : decode (zC Z) pc = .ok (.lookupswitch dflt ps, len)) (h : sx C ret (.lookupswitch dflt ps) tg nn ax sw pc ls st w kr k = some o) (hk : KOK Z K w0 adr0 w k o) : AtM Z K w0 adr0 pc ls st w := by
  obtain ⟨x, r, hs, h'⟩ := pI_s h
  clear h
  subst hs
  have h := h'
  clear h'
  rw [swi_eq] at h
  intro adr H locs lsM hR hS ho hL hn hl hg hx
  have hx1 : in32 x := (okS_c.mp ho).1
  have hN := hk _ _ _ _ h Ext.rf adr H locs lsM hR hS (okS_c.mp ho).2 hL hn hl hg hx
  obtain ⟨e1, e2, e3, e4⟩ := hr
  exact lv_lookup B.1 B.2.1 hd e3 rfl (by rw [toI_of hx1]; exact swt_look _ _ e1 e2 e4) hN
theorem sm_acmp_eq (B : BX Z K) {off : Int} (ht : (pc : Int) + off = (tg : Int)) (hd : decode (zC Z) pc = .ok (.if_acmp .eq off, 3)) (h : sx C ret (.if_acmp .eq off) tg nn ax sw pc ls st w kr k = some o) (hk : KOK Z K w0 adr0 w k o) : AtM Z K w0 adr0 pc ls st w := by
  obtain ⟨y, r, hs, h'⟩ := pR_s h
  clear h
  subst hs
  have h := h'
  clear h'
  obtain ⟨x, r, hs, h'⟩ := pR_s h
  clear h
  subst hs
  have h := h'
  clear h'
  obtain ⟨⟨h1, h2⟩, h⟩ := if_s h
  intro adr H locs lsM hR hS ho hL hn hl hg hx
  have hy1 : okV w (.inr (.inr y)) := (okS_c.mp ho).1
  have hx1 : okV w (.inr (.inr x)) := (okS_c.mp (okS_c.mp ho).2).1
  have hx0 : 0 ≤ x := by
    rcases hx1 with z | z
    · omega
    · have := (hR.1.pos x z).1; omega
  have hy0 : 0 ≤ y := by
    rcases hy1 with z | z
    · omega
    · have := (hR.1.pos y z).1; omega
  have hinj : rO adr x = rO adr y ↔ x = y := by
    constructor
    · intro e
      unfold rO at e
      by_cases ex : x = 0
      · by_cases ey : y = 0
        · omega
        · rw [if_pos ex, if_neg ey] at e; cases e
      · by_cases ey : y = 0
        · rw [if_neg ex, if_pos ey] at e; cases e
        · rw [if_neg ex, if_neg ey] at e
          have e := Option.some.inj e
          have ax := hR.2.1 (x - 1).toNat (by omega)
          have ay := hR.2.1 (y - 1).toNat (by omega)
          rw [show (((x - 1).toNat : Nat) : Int) + 1 = x by omega] at ax
          rw [show (((y - 1).toNat : Nat) : Int) + 1 = y by omega] at ay
          have := B.2.2.2.2.2.2.1.2.1.2 (x - 1).toNat (y - 1).toNat (show (x - 1).toNat < 23 by omega) (show (y - 1).toNat < 23 by omega) (by rw [← ax, ← ay]; exact e)
          omega
    · intro e; rw [e]
  simp only [List.map_cons, va_rf_mv]
  refine lv_acmp_eq (tgt := tg) B.1 B.2.1 hd ht (fun c => ?_) (fun c => ?_)
  · rw [if_pos (hinj.mp c)] at h
    exact hk _ _ _ _ h Ext.rf adr H locs lsM hR hS (okS_c.mp (okS_c.mp ho).2).2 hL hn hl hg hx
  · rw [if_neg (fun z => c (hinj.mpr z))] at h
    exact hk _ _ _ _ h Ext.rf adr H locs lsM hR hS (okS_c.mp (okS_c.mp ho).2).2 hL hn hl hg hx
theorem sm_acmp_ne (B : BX Z K) {off : Int} (ht : (pc : Int) + off = (tg : Int)) (hd : decode (zC Z) pc = .ok (.if_acmp .ne off, 3)) (h : sx C ret (.if_acmp .ne off) tg nn ax sw pc ls st w kr k = some o) (hk : KOK Z K w0 adr0 w k o) : AtM Z K w0 adr0 pc ls st w := by
  obtain ⟨y, r, hs, h'⟩ := pR_s h
  clear h
  subst hs
  have h := h'
  clear h'
  obtain ⟨x, r, hs, h'⟩ := pR_s h
  clear h
  subst hs
  have h := h'
  clear h'
  obtain ⟨⟨h1, h2⟩, h⟩ := if_s h
  intro adr H locs lsM hR hS ho hL hn hl hg hx
  have hy1 : okV w (.inr (.inr y)) := (okS_c.mp ho).1
  have hx1 : okV w (.inr (.inr x)) := (okS_c.mp (okS_c.mp ho).2).1
  have hx0 : 0 ≤ x := by
    rcases hx1 with z | z
    · omega
    · have := (hR.1.pos x z).1; omega
  have hy0 : 0 ≤ y := by
    rcases hy1 with z | z
    · omega
    · have := (hR.1.pos y z).1; omega
  have hinj : rO adr x = rO adr y ↔ x = y := by
    constructor
    · intro e
      unfold rO at e
      by_cases ex : x = 0
      · by_cases ey : y = 0
        · omega
        · rw [if_pos ex, if_neg ey] at e; cases e
      · by_cases ey : y = 0
        · rw [if_neg ex, if_pos ey] at e; cases e
        · rw [if_neg ex, if_neg ey] at e
          have e := Option.some.inj e
          have ax := hR.2.1 (x - 1).toNat (by omega)
          have ay := hR.2.1 (y - 1).toNat (by omega)
          rw [show (((x - 1).toNat : Nat) : Int) + 1 = x by omega] at ax
          rw [show (((y - 1).toNat : Nat) : Int) + 1 = y by omega] at ay
          have := B.2.2.2.2.2.2.1.2.1.2 (x - 1).toNat (y - 1).toNat (show (x - 1).toNat < 23 by omega) (show (y - 1).toNat < 23 by omega) (by rw [← ax, ← ay]; exact e)
          omega
    · intro e; rw [e]
  simp only [List.map_cons, va_rf_mv]
  refine lv_acmp_ne (tgt := tg) B.1 B.2.1 hd ht (fun c => ?_) (fun c => ?_)
  · rw [if_neg (fun z => c (hinj.mpr z))] at h
    exact hk _ _ _ _ h Ext.rf adr H locs lsM hR hS (okS_c.mp (okS_c.mp ho).2).2 hL hn hl hg hx
  · rw [if_pos (hinj.mp c)] at h
    exact hk _ _ _ _ h Ext.rf adr H locs lsM hR hS (okS_c.mp (okS_c.mp ho).2).2 hL hn hl hg hx
theorem sm_aastore (B : BX Z K) (hd : decode (zC Z) pc = .ok (.aastore, 1)) (h : sx C ret (.aastore) tg nn ax sw pc ls st w kr k = some o) (hk : KOK Z K w0 adr0 w k o) : AtM Z K w0 adr0 pc ls st w := by
  obtain ⟨v, r, hs, h'⟩ := pR_s h
  clear h
  subst hs
  have h := h'
  clear h'
  obtain ⟨i, r, hs, h'⟩ := pI_s h
  clear h
  subst hs
  have h := h'
  clear h'
  obtain ⟨a, r, hs, h'⟩ := pR_s h
  clear h
  subst hs
  have h := h'
  clear h'
  obtain ⟨⟨hc, h0, h1⟩, h⟩ := if_s h
  intro adr H locs lsM hR hS ho hL hn hl hg hx
  have hv1 := (okS_c.mp ho).1
  have hi1 : in32 i := (okS_c.mp (okS_c.mp ho).2).1
  have hst := (okS_c.mp (okS_c.mp (okS_c.mp ho).2).2).2
  have hst' : okS (sv w a i v) _ := fun u hu => (okV_kd (kd_sv w a i v)).mpr (hst u hu)
  have hL' : okL (sv w a i v) ls := fun u hu => (okV_kd (kd_sv w a i v)).mpr (hL u hu)
  have hkb : 32 ≤ a := by
    rcases hc with q | q | q | q
    · exact kd_big hR.1 (by omega)
    · exact kd_big hR.1 (by omega)
    · exact kd_big hR.1 (by omega)
    · exact q.2.2
  obtain ⟨hlt, hok⟩ := hR.live hkb (by omega)
  have hel : elT (kd w a) = 2 := by unfold elT; rw [if_neg (by omega), if_pos (by omega)]
  have hnew : okC (sv w a i v) a := okC_sva hok (by omega) (by rw [hel]; exact hv1) (fun z => by omega)
  have hW' : WFw (lcL K) (lcX K) (sv w a i v) := hR.1.upd rfl rfl (fun b j' hb => by rw [gv_sv, if_neg (fun z => hb z.1)]) hkb hnew
  have hget := wsO_get (cA := lcA K) (adr := adr) hkb hlt
  have hv0 : v ≠ 0 := by
    intro e
    have := hR.1.2.2.2.2.1 0 (Or.inl (by omega))
    rw [e] at hc
    omega
  simp only [List.map_cons, mv_ref (show a ≠ 0 by omega), mv_ref hv0]
  have core : ∀ (n : Nat), n < 4 → kd w a = ((n + 24 : Nat) : Int) → wsO (lcA K) adr (sv w a i v) = (wsO (lcA K) adr w).set (a - 32).toNat (adr a, .inl (lcA K (n + 4), (ln w a).toNat, .inr (.inr (.inr (.inr (va_up (fun j : Nat => rO adr (gv w a j)) i.toNat (some (adr v)))))))) := by
    intro n hn4 hkn
    rw [wsO_set (w := w) (w' := sv w a i v) hkb hlt rfl cellOf_sv, cell_ref (show kd (sv w a i v) a = _ from hkn) hn4, updR_of h0 hv0]
    rfl
  have fin : ∀ (n : Nat), n < 4 → kd w a = ((n + 24 : Nat) : Int) → ∀ (H1 : Heap) (locs1 : List Loc), va_P (lcD K) vwCl ((wsO (lcA K) adr w).set (a - 32).toNat (adr a, .inl (lcA K (n + 4), (ln w a).toNat, .inr (.inr (.inr (.inr (va_up (fun j : Nat => rO adr (gv w a j)) (Int32.ofInt i).toNatClampNeg (some (adr v)))))))))  H1 → va_D (oldA K) ((wsO (lcA K) adr w).set (a - 32).toNat (adr a, .inl (lcA K (n + 4), (ln w a).toNat, .inr (.inr (.inr (.inr (va_up (fun j : Nat => rO adr (gv w a j)) (Int32.ofInt i).toNatClampNeg (some (adr v))))))))) → va_S (oldA K) (zs Z).heap H1 locs1 → Wz Z H1 locs1 (uc w - uc w0) (us w - us w0) (F0 (zm Z) (pc + 1) lsM (List.map (mvV adr) r)) := by
    intro n hn4 hkn H1 locs1 p1 p2 p3
    rw [clamp_of' hi1 h0, ← core n hn4 hkn] at p1 p2
    exact hk _ _ _ _ h Ext.sv adr H1 locs1 lsM ⟨hW', hR.2.1, hR.2.2.1, hR.2.2.2.1, p1, p2⟩ p3 hst' hL' hn hl hg (hx.tr Ext.sv)
  have obj : ∀ (n m : Nat), n < 4 → m < 10 → kd w a = ((n + 24 : Nat) : Int) → kd w v = ((m + 1 : Nat) : Int) → (tysO (lcA K))[n + 4]? = some (lcA K (n + 4), .object (clN m).1) → Wz Z H locs (uc w - uc w0) (us w - us w0) (F0 (zm Z) pc lsM (.ref (adr v) :: mvV adr (.inl i) :: .ref (adr a) :: List.map (mvV adr) r)) := by
    intro n m hn4 hm10 hkn hkm hty
    have hv32 : 32 ≤ v := kd_big hR.1 (by omega)
    obtain ⟨hvlt, -⟩ := hR.live hv32 (by omega)
    have hgv := wsO_get (cA := lcA K) (adr := adr) hv32 hvlt
    rw [cell_obj hkm hm10] at hgv
    rw [cell_ref hkn hn4] at hget
    exact va_astq B.1 B.2.1 B.2.2.2.2.2.2.1.1 hR.2.2.2.2.1 hR.2.2.2.2.2 hS _ _ _ m hget hty hgv (cl_at hm10) (vp_in_of' hi1 h0 (by omega)) hd (fin n hn4 hkn)
  rcases hc with q | q | q | q
  · exact obj 0 4 (by omega) (by omega) q.1 q.2 rfl
  · exact obj 1 7 (by omega) (by omega) q.1 q.2 rfl
  · exact obj 2 6 (by omega) (by omega) q.1 q.2 rfl
  · obtain ⟨e, he, hve⟩ := kd_30 hR.1 q.2.1
    have had : adr v = lcE K e := by rw [hve]; exact hR.2.1 e he
    have hO := ((B.2.2.2.2.2.2.1.2.1.kept B.2.2.2.2.2.2.2.1.kept).1 e he).2.1
    obtain ⟨cellV, o1, o2, o3, o4⟩ := hO
    have hany : va_Any RX10 (zs Z) H (adr v) := by
      obtain ⟨kC, hkC, -⟩ := Vm.findClass_spec o3
      refine ⟨cellV, ?_, o2, ⟨kC, hkC⟩, fun comp hcm => ?_⟩
      · rw [had, hS.2.1 _ (Array.getElem?_eq_some_iff.mp o1).1 o4]; exact o1
      · rw [o3] at hcm
        cases hcm
        show (_ == _ || _) = true
        rw [beq_self_eq_true, Bool.true_or]
    rw [cell_ref (n := 3) q.1 (by omega)] at hget
    exact va_astqM B.1 B.2.1 B.2.2.2.2.2.2.1.1 hR.2.2.2.2.1 hR.2.2.2.2.2 hS _ 7 hget rfl hany (vp_in_of' hi1 h0 (by omega)) hd (fin 3 (by omega) q.1)
theorem cell_arr {cA : Nat → ClassId} {adr : Int → Nat} {w : sW} {r : Int} (h : 20 ≤ kd w r ∧ kd w r ≤ 27) : ∃ (x : vp_A) (t : Nat) (ty : FieldType), cellOf cA adr w r = .inl (cA t, x) ∧ x.1 = (ln w r).toNat ∧ (tysO cA)[t]? = some (cA t, ty) := by
  rcases (show kd w r = 20 ∨ kd w r = 21 ∨ kd w r = 22 ∨ kd w r = 23 ∨ kd w r = ((0 + 24 : Nat) : Int) ∨ kd w r = ((1 + 24 : Nat) : Int) ∨ kd w r = ((2 + 24 : Nat) : Int) ∨ kd w r = ((3 + 24 : Nat) : Int) by omega) with e | e | e | e | e | e | e | e
  · exact ⟨_, 0, _, cell_int e, rfl, rfl⟩
  · exact ⟨_, 1, _, cell_byte e, rfl, rfl⟩
  · exact ⟨_, 2, _, cell_long e, rfl, rfl⟩
  · exact ⟨_, 3, _, cell_bool e, rfl, rfl⟩
  · exact ⟨_, 4, _, cell_ref e (by omega), rfl, rfl⟩
  · exact ⟨_, 5, _, cell_ref e (by omega), rfl, rfl⟩
  · exact ⟨_, 6, _, cell_ref e (by omega), rfl, rfl⟩
  · exact ⟨_, 7, _, cell_ref e (by omega), rfl, rfl⟩
theorem ofN_of (n : Nat) : Int32.ofNat n = Int32.ofInt (n : Int) := (Int32.ofInt_eq_ofNat).symm
theorem sm_arraylength (B : BX Z K) (hLL : lcL K ≤ 100000) (hd : decode (zC Z) pc = .ok (.arraylength, 1)) (h : sx C ret (.arraylength) tg nn ax sw pc ls st w kr k = some o) (hk : KOK Z K w0 adr0 w k o) : AtM Z K w0 adr0 pc ls st w := by
  obtain ⟨a, r, hs, h'⟩ := pR_s h
  clear h
  subst hs
  have h := h'
  clear h'
  obtain ⟨hc, h⟩ := if_s h
  intro adr H locs lsM hR hS ho hL hn hl hg hx
  by_cases hkb : 32 ≤ a
  · obtain ⟨hlt, hok⟩ := hR.live hkb (by omega)
    have hln := (hok.resolve_left (by omega)).2.1
    obtain ⟨x, t, ty, c1, c2, c3⟩ := cell_arr (cA := lcA K) (adr := adr) hc
    have hget := wsO_get (cA := lcA K) (adr := adr) hkb hlt
    rw [c1] at hget
    have hN := hk _ _ _ _ h Ext.rf adr H locs lsM hR hS (okS_c.mpr ⟨(by show in32 _; unfold in32; omega), (okS_c.mp ho).2⟩) hL hn hl hg hx
    simp only [List.map_cons, mv_ref (show a ≠ 0 by omega)]
    exact va_alen B.1 B.2.1 B.2.2.2.2.2.2.1.1 hR.2.2.2.2.1 _ t hget c3 (by rw [c2, ofN_of, show (((ln w a).toNat : Nat) : Int) = ln w a by omega]) hd hN
  · rcases kd_small (r := a) hR.1 (by omega) hc with ⟨ha, _, hln⟩ | ⟨ha, _, hln⟩
    · subst ha
      rw [hln] at h
      have hN := hk _ _ _ _ h Ext.rf adr H locs lsM hR hS (okS_c.mpr ⟨(by show in32 23; unfold in32; omega), (okS_c.mp ho).2⟩) hL hn hl hg hx
      simp only [List.map_cons, mv_ref (show (24 : Int) ≠ 0 by omega), hR.2.2.1]
      obtain ⟨cell, t1, t2, t3, t4, t5, t6, t7⟩ := B.2.2.2.2.2.2.1.2.2.2.2.2.2.1.kept B.2.2.2.2.2.2.2.1.kept
      exact W.alen (n := Int32.ofNat 23) B.1 B.2.1 (by rw [hS.2.1 _ (Array.getElem?_eq_some_iff.mp t1).1 t7]; exact t1) t2 t5 rfl rfl hd hN
    · subst ha
      rw [hln] at h
      have hN := hk _ _ _ _ h Ext.rf adr H locs lsM hR hS (okS_c.mpr ⟨(by show in32 _; unfold in32; omega), (okS_c.mp ho).2⟩) hL hn hl hg hx
      simp only [List.map_cons, mv_ref (show (25 : Int) ≠ 0 by omega), hR.2.2.2.1]
      have KX := B.2.2.2.2.2.2.1.2.2.2.2.2.2.2.1
      have hO := B.2.2.2.2.2.2.2.1
      refine va_slen B.1 B.2.1 (KX.1.kept (hO.2 _ KX.2)) (Nat.lt_of_lt_of_le KX.2 hO.1) (Nat.not_le.mpr KX.2) hS hd ?_
      rw [ofN_of]
      exact hN
theorem sm_new (B : BX Z K) {i : Nat} (hr : ∃ n : Nat, n < 10 ∧ ax = [((n + 1 : Nat) : Int)] ∧ tg = nF ((n + 1 : Nat) : Int) ∧ Cond.classLink (zo Z) i (clN n).1 ∈ zt Z ∧ Cond.instantiable (clN n).1 tg ∈ zt Z ∧ Cond.initialized (clN n).1 ∈ zt Z) (hd : decode (zC Z) pc = .ok (.new i, 3)) (hB : ∀ pc ls st w', k pc ls st w' = some o → uc w' - uc w0 ≤ (zR Z).cells ∧ us w' - us w0 ≤ (zR Z).slots) (h : sx C ret (.new i) tg nn ax sw pc ls st w kr k = some o) (hk : KOK Z K w0 adr0 w k o) : AtM Z K w0 adr0 pc ls st w := by
  obtain ⟨n, hn10, hax, htg, w1, w2, w3⟩ := hr
  subst hax
  replace h : k (pc + 3) ls (.inr (.inr (nx w)) :: st) (al w ((n + 1 : Nat) : Int) 0 tg) = some o := h
  intro adr H locs lsM hR hS ho hL hn hl hg hx
  have hA : ∀ q : Nat, (zs Z).heap.size ≤ q → oldA K q := fun q hq => Nat.le_trans B.2.2.2.2.2.2.2.1.1 hq
  obtain ⟨b1, b2⟩ := hB _ _ _ _ h
  obtain ⟨u1, u2⟩ := uc_al (κ := ((n + 1 : Nat) : Int)) (len := 0) (n := tg) hx
  rw [u1] at b1
  rw [u2] at b2
  subst htg
  rw [← cl_n hn10] at w2
  refine va_new (ci := n) (fs := (List.range (nF ((n + 1 : Nat) : Int))).map (fun k : Nat => mvV adr (mkV (fT ((n + 1 : Nat) : Int) k) 0))) B.1 B.2.1 B.2.2.2.2.1 (fun w hw => B.2.2.2.2.2.1 w (cl_ws hn10 w hw)) (tyN n) (cl_ty hn10) B.2.2.2.1 (B.2.2.2.2.1 _ w1) (B.2.2.2.2.1 _ w2) (B.2.2.2.2.1 _ w3) B.2.2.2.2.2.2.1.1 hR.2.2.2.2.1 hR.2.2.2.2.2 hS hA (cl_at hn10) (fun j hj => ?_) b1 (by rw [cl_n hn10]; exact b2) hd (fun q H1 p1 p2 p3 => ?_)
  · have htc := cl_tc hn10 j hj
    rw [cl_n hn10] at hj
    unfold vp_V
    rw [List.getD_eq_getElem?_getD, List.getElem?_map, List.getElem?_range hj]
    simp only [Option.map_some, Option.getD_some]
    rw [← htc]
    generalize tyN n j = t at htc ⊢
    have : fT ((n + 1 : Nat) : Int) j < 4 := by
      have hall : ∀ n, n < 10 → ∀ j, j < nF ((n + 1 : Nat) : Int) → fT ((n + 1 : Nat) : Int) j < 4 := by
        intro n hn
        rcases lt10 hn with rfl | rfl | rfl | rfl | rfl | rfl | rfl | rfl | rfl | rfl <;> decide +kernel
      exact hall n hn10 j hj
    rw [← htc] at this
    cases t <;> simp [tyc] at this ⊢ <;> rfl
  · obtain ⟨f1, f2, f3, f4, f5⟩ := al_frame (K := K) (q := q) (κ := ((n + 1 : Nat) : Int)) (len := 0) (n := nF ((n + 1 : Nat) : Int)) hR.1 ho hL hl hg hx
    have hws : wsO (lcA K) (adrN adr w q) (al w ((n + 1 : Nat) : Int) 0 (nF ((n + 1 : Nat) : Int))) = wsO (lcA K) adr w ++ [(q, .inr (n, (List.range (nF ((n + 1 : Nat) : Int))).map (fun k : Nat => mvV adr (mkV (fT ((n + 1 : Nat) : Int) k) 0))))] := by
      rw [wsO_al hR.1]
      have hk1 : kd (al w ((n + 1 : Nat) : Int) 0 (nF ((n + 1 : Nat) : Int))) (nx w) = ((n + 1 : Nat) : Int) := by rw [kd_al, if_pos rfl]
      rw [cell_obj hk1 hn10]
      unfold fldO
      rw [hk1]
      have : ∀ k : Nat, mvV (adrN adr w q) (mkV (fT ((n + 1 : Nat) : Int) k) (gv (al w ((n + 1 : Nat) : Int) 0 (nF ((n + 1 : Nat) : Int))) (nx w) k)) = mvV adr (mkV (fT ((n + 1 : Nat) : Int) k) 0) := by
        intro k
        rw [gv_al, if_pos rfl]
        match fT ((n + 1 : Nat) : Int) k with
        | 0 => rfl
        | 1 => rfl
        | 2 => rfl
        | t + 3 => rfl
      simp only [this]
    rw [← hws] at p1 p2
    have hnx : 0 < nx w := by have := hR.1.1; omega
    have hkk : kd (al w ((n + 1 : Nat) : Int) 0 (nF ((n + 1 : Nat) : Int))) (nx w) ≠ 0 := by rw [kd_al, if_pos rfl]; omega
    have a24 : (24 : Int) < nx w := by have := hR.1.1; omega
    have a25 : (25 : Int) < nx w := by have := hR.1.1; omega
    have hN := hk _ _ _ _ h Ext.al (adrN adr w q) H1 locs lsM ⟨WFw_al hR.1 (Or.inl (by omega)), fun k hk => by rw [adrN_old (by have := hR.1.1; omega)]; exact hR.2.1 k hk, by rw [adrN_old a24]; exact hR.2.2.1, by rw [adrN_old a25]; exact hR.2.2.2.1, p1, p2⟩ p3 (okS_c.mpr ⟨Or.inr hkk, f1⟩) f2 hn f3 f4 (hx.tr Ext.al)
    simp only [List.map_cons, mv_ref (show nx w ≠ 0 by omega), f5] at hN
    rw [u1, u2] at hN
    rw [cl_n hn10]
    have e : adrN adr w q (nx w) = q := if_pos rfl
    rw [e] at hN
    exact hN
end SH
