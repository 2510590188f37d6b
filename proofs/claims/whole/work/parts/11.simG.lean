/-! ===== instructions that read and write the heap (printed by wip/whole/simg.py) ===== -/
theorem Old.kept {K : LC} {H : Heap} (h : Old K H) : ∀ a : Nat, a < (lcH K).size → ¬ oldA K a → H[a]? = (lcH K)[a]? := fun a ha _ => h.2 a ha
theorem tyc_0 {t : FieldType} (h : tyc t = 0) : t = .int := by cases t <;> simp [tyc] at h ⊢
theorem tyc_1 {t : FieldType} (h : tyc t = 1) : t = .long := by cases t <;> simp [tyc] at h ⊢
theorem tyc_3 {t : FieldType} (h : tyc t = 3) : t = .boolean := by cases t <;> simp [tyc] at h ⊢
theorem tyc_2 {t : FieldType} (h : tyc t = 2) : (∃ n, t = .object n) ∨ ∃ u, t = .array u := by
  cases t with
  | object n => exact Or.inl ⟨n, rfl⟩
  | array u => exact Or.inr ⟨u, rfl⟩
  | _ => simp [tyc] at h
section SG
variable {Z : MZ} {K : LC} {w0 w : sW} {adr0 : Int → Nat} {C : sC} {ret tg pc : Nat} {nn : List Nat} {ax : List Int} {sw : List (Int × Nat)} {ls : sL} {st : List sV} {kr : Option sV → sW → Option sO} {k : Nat → sL → List sV → sW → Option sO} {o : sO}
theorem sm_getfield (B : BX Z K) {i : Nat} (hr : ∃ n j : Nat, n < 10 ∧ ax = [((n + 1 : Nat) : Int), (j : Int)] ∧ j < nF ((n + 1 : Nat) : Int) ∧ tg = fT ((n + 1 : Nat) : Int) j ∧ Cond.fieldLink (zo Z) i ((clN n).2.1 j).1 ((clN n).2.1 j).2.1 ((clN n).2.1 j).2.2.1 ∈ zt Z) (hd : decode (zC Z) pc = .ok (.getfield i, 3)) (h : sx C ret (.getfield i) tg nn ax sw pc ls st w kr k = some o) (hk : KOK Z K w0 adr0 w k o) : AtM Z K w0 adr0 pc ls st w := by
  obtain ⟨n, j, hn10, hax, hj, htg, hlk⟩ := hr
  subst hax
  replace h : pR st _ = some o := h
  obtain ⟨a, r, hs, h'⟩ := pR_s h
  clear h
  subst hs
  have h := h'
  clear h'
  obtain ⟨hc, h⟩ := if_s h
  intro adr H locs lsM hR hS ho hL hn hl hg hx
  have h32 : 32 ≤ a := kd_big hR.1 (by omega)
  obtain ⟨hlt, hok⟩ := hR.live h32 (by omega)
  have hget := wsO_get (cA := lcA K) (adr := adr) h32 hlt
  rw [cell_obj hc hn10] at hget
  rw [htg, ← hc] at h
  have hv : okV w (mkV (fT (kd w a) j) (gv w a j)) := by
    rcases hok with z | z
    · exact z.2 j
    · omega
  have hN := hk _ _ _ _ h Ext.rf adr H locs lsM hR hS (okS_c.mpr ⟨hv, (okS_c.mp ho).2⟩) hL hn hl hg hx
  simp only [List.map_cons, mv_ref (show a ≠ 0 by omega)]
  exact va_get B.1 B.2.1 B.2.2.2.2.1 (fun w hw => B.2.2.2.2.2.1 w (cl_ws hn10 w hw)) B.2.2.2.1 B.2.2.2.2.2.2.1.1 hR.2.2.2.2.1 _ hget (cl_at hn10) j (by rw [cl_n hn10]; exact hj) (B.2.2.2.2.1 _ hlk) (fun x h => h) (fldO_get (by rw [hc]; exact hj)) hd hN
theorem sm_getword (B : BX Z K) {i : Nat} (hr : ∃ (j : Nat) (nm d : String), ax = [30, (j : Int)] ∧ ((j = 0 ∧ tg = 1 ∧ nm = "code" ∧ d = "J") ∨ (j = 1 ∧ tg = 0 ∧ nm = "sort" ∧ d = "I") ∨ (j = 2 ∧ tg = 0 ∧ nm = "base" ∧ d = "I")) ∧ Cond.fieldLink (zo Z) i RX10 nm d ∈ zt Z) (hd : decode (zC Z) pc = .ok (.getfield i, 3)) (h : sx C ret (.getfield i) tg nn ax sw pc ls st w kr k = some o) (hk : KOK Z K w0 adr0 w k o) : AtM Z K w0 adr0 pc ls st w := by
  obtain ⟨j, nm, d, hax, hj, hlk⟩ := hr
  subst hax
  replace h : pR st _ = some o := h
  obtain ⟨a, r, hs, h'⟩ := pR_s h
  clear h
  subst hs
  have h := h'
  clear h'
  obtain ⟨hc, h⟩ := if_s h
  intro adr H locs lsM hR hS ho hL hn hl hg hx
  obtain ⟨q, hq, ha⟩ := kd_30 hR.1 hc
  have had : adr a = lcE K q := by rw [ha]; exact hR.2.1 q hq
  obtain ⟨-, g0, g1, g2⟩ := hR.1.2.1 q hq
  have hwd : ∀ q, q < 23 → in64 (wWd.getD q (0, 0, 0)).1 ∧ in32 (wWd.getD q (0, 0, 0)).2.1 ∧ in32 (wWd.getD q (0, 0, 0)).2.2 := by unfold in64 in32; decide +kernel
  have KN1 := B.2.2.2.2.2.2.1
  have hO := B.2.2.2.2.2.2.2.1.kept
  simp only [List.map_cons, mv_ref (show a ≠ 0 by omega), had]
  rcases hj with ⟨rfl, rfl, rfl, rfl⟩ | ⟨rfl, rfl, rfl, rfl⟩ | ⟨rfl, rfl, rfl, rfl⟩
  · have e : gv w a ((0 : Nat) : Int) = (wWd.getD q (0, 0, 0)).1 := by rw [ha]; exact g0
    rw [e] at h
    have hN := hk _ _ _ _ h Ext.rf adr H locs lsM hR hS (okS_c.mpr ⟨(hwd q hq).1, (okS_c.mp ho).2⟩) hL hn hl hg hx
    exact va_getX B.1 B.2.1 (KN1.2.2.1.kept hO) hq hS B.2.2.2.1 (B.2.2.2.2.1 _ hlk) (fun x h => h) hd hN
  · have e : gv w a ((1 : Nat) : Int) = (wWd.getD q (0, 0, 0)).2.1 := by rw [ha]; exact g1
    rw [e] at h
    have hN := hk _ _ _ _ h Ext.rf adr H locs lsM hR hS (okS_c.mpr ⟨(hwd q hq).2.1, (okS_c.mp ho).2⟩) hL hn hl hg hx
    exact va_getX B.1 B.2.1 (KN1.2.2.2.1.kept hO) hq hS B.2.2.2.1 (B.2.2.2.2.1 _ hlk) (fun x h => h) hd hN
  · have e : gv w a ((2 : Nat) : Int) = (wWd.getD q (0, 0, 0)).2.2 := by rw [ha]; exact g2
    rw [e] at h
    have hN := hk _ _ _ _ h Ext.rf adr H locs lsM hR hS (okS_c.mpr ⟨(hwd q hq).2.2, (okS_c.mp ho).2⟩) hL hn hl hg hx
    exact va_getX B.1 B.2.1 (KN1.2.2.2.2.1.kept hO) hq hS B.2.2.2.1 (B.2.2.2.2.1 _ hlk) (fun x h => h) hd hN
theorem put_core (B : BX Z K) {i n j : Nat} {v : sV} {x a : Int} (hn10 : n < 10) (hj : j < nF ((n + 1 : Nat) : Int)) (hlk : Cond.fieldLink (zo Z) i ((clN n).2.1 j).1 ((clN n).2.1 j).2.1 ((clN n).2.1 j).2.2.1 ∈ zt Z)
    (hfin : ((clN n).2.1 j).2.2.2 = false ∨ (((clN n).2.1 j).2.2.2 = true ∧ (zh Z).name = "<init>" ∧ ((clN n).2.1 j).1 = zo Z)) (hv : v = mkV (fT ((n + 1 : Nat) : Int) j) x) (hnar : ∀ adr, narrow (tyN n j) (mvV adr v) = mvV adr v ∧ fits (tyN n j) (mvV adr v) = true) (hc : kd w a = ((n + 1 : Nat) : Int)) (hd : decode (zC Z) pc = .ok (.putfield i, 3))
    (hN : AtM Z K w0 adr0 (pc + 3) ls st (sv w a j x)) : AtM Z K w0 adr0 pc ls (v :: .inr (.inr a) :: st) w := by
  intro adr H locs lsM hR hS ho hL hn hl hg hx
  have h32 : 32 ≤ a := kd_big hR.1 (by omega)
  obtain ⟨hlt, hok⟩ := hR.live h32 (by omega)
  have hget := wsO_get (cA := lcA K) (adr := adr) h32 hlt
  rw [cell_obj hc hn10] at hget
  have hnew : okC (sv w a j x) a := okC_svo hok (by omega) (by rw [hc, ← hv]; exact (okS_c.mp ho).1)
  have hW' : WFw (lcL K) (lcX K) (sv w a j x) := hR.1.upd rfl rfl (fun b j' hb => by rw [gv_sv, if_neg (fun z => hb z.1)]) h32 hnew
  have hws : wsO (lcA K) adr (sv w a j x) = (wsO (lcA K) adr w).set (a - 32).toNat (adr a, .inr (n, (fldO adr w a).set j (mvV adr v))) := by
    rw [wsO_set (w := w) (w' := sv w a j x) h32 hlt rfl cellOf_sv, cell_obj (show kd (sv w a j x) a = _ from hc) hn10, fldO_set (by rw [hc]; exact hj), hc, ← hv]
  have hkk : ∀ (H1 : Heap) (locs1 : List Loc), va_P (lcD K) vwCl ((wsO (lcA K) adr w).set (a - 32).toNat (adr a, .inr (n, (fldO adr w a).set j (mvV adr v)))) H1 → va_D (oldA K) ((wsO (lcA K) adr w).set (a - 32).toNat (adr a, .inr (n, (fldO adr w a).set j (mvV adr v)))) → va_S (oldA K) (zs Z).heap H1 locs1 → Wz Z H1 locs1 (uc w - uc w0) (us w - us w0) (F0 (zm Z) (pc + 3) lsM (st.map (mvV adr))) := by
    intro H1 locs1 p1 p2 p3
    rw [← hws] at p1 p2
    exact hN adr H1 locs1 lsM ⟨hW', hR.2.1, hR.2.2.1, hR.2.2.2.1, p1, p2⟩ p3 (fun u hu => (okV_kd (kd_sv w a j x)).mpr ((okS_c.mp (okS_c.mp ho).2).2 u hu)) (fun u hu => (okV_kd (kd_sv w a j x)).mpr (hL u hu)) hn hl hg (hx.tr Ext.sv)
  simp only [List.map_cons, mv_ref (show a ≠ 0 by omega)]
  have hjn : j < (clN n).2.2 := by rw [cl_n hn10]; exact hj
  rcases hfin with hf | ⟨hf, hin, hown⟩
  · exact va_put B.1 B.2.1 B.2.2.2.2.1 (fun w hw => B.2.2.2.2.2.1 w (cl_ws hn10 w hw)) (tyN n) (cl_ty hn10) (cl_nm hn10) B.2.2.2.1 B.2.2.2.2.2.2.1.1 hR.2.2.2.2.1 hR.2.2.2.2.2 hS _ hget (cl_at hn10) j hjn (B.2.2.2.2.1 _ hlk) (fun x h => h) hf (cl_ty hn10 j hjn) (hnar adr).1 (hnar adr).2 (by rw [fldO_len, hc]; exact hj) hd hkk
  · exact va_putF B.1 B.2.1 B.2.2.2.2.1 (fun w hw => B.2.2.2.2.2.1 w (cl_ws hn10 w hw)) (tyN n) (cl_ty hn10) (cl_nm hn10) B.2.2.2.1 B.2.2.2.2.2.2.1.1 hR.2.2.2.2.1 hR.2.2.2.2.2 hS _ hget (cl_at hn10) j hjn (B.2.2.2.2.1 _ hlk) (fun x h => h) hf hin hown (cl_ty hn10 j hjn) (hnar adr).1 (hnar adr).2 (by rw [fldO_len, hc]; exact hj) hd hkk
theorem sm_putfield (B : BX Z K) {i : Nat} (hr : ∃ n j : Nat, n < 10 ∧ ax = [((n + 1 : Nat) : Int), (j : Int)] ∧ j < nF ((n + 1 : Nat) : Int) ∧ tg = fT ((n + 1 : Nat) : Int) j ∧ Cond.fieldLink (zo Z) i ((clN n).2.1 j).1 ((clN n).2.1 j).2.1 ((clN n).2.1 j).2.2.1 ∈ zt Z ∧ (((clN n).2.1 j).2.2.2 = false ∨ (((clN n).2.1 j).2.2.2 = true ∧ (zh Z).name = "<init>" ∧ ((clN n).2.1 j).1 = zo Z))) (hd : decode (zC Z) pc = .ok (.putfield i, 3)) (h : sx C ret (.putfield i) tg nn ax sw pc ls st w kr k = some o) (hk : KOK Z K w0 adr0 w k o) : AtM Z K w0 adr0 pc ls st w := by
  obtain ⟨n, j, hn10, hax, hj, htg, hlk, hfin⟩ := hr
  subst hax
  replace h : tC tg _ _ _ _ = some o := h
  have htc := cl_tc hn10 j (by rw [cl_n hn10]; exact hj)
  rw [← htg] at htc
  match tg, htg, htc, h with
  | 0, htg, htc, h =>
    replace h : pI st _ = some o := h
    obtain ⟨v, r, hs, h'⟩ := pI_s h
    clear h
    subst hs
    have h := h'
    clear h'
    obtain ⟨a, r, hs, h'⟩ := pR_s h
    clear h
    subst hs
    have h := h'
    clear h'
    obtain ⟨hc, h⟩ := if_s h
    have e := tyc_0 htc
    refine put_core B (v := .inl v) (x := v) hn10 hj hlk hfin (by rw [← htg]; rfl) (fun adr => ?_) hc hd (hk _ _ _ _ h Ext.sv)
    rw [e]
    exact ⟨rfl, rfl⟩
  | 1, htg, htc, h =>
    replace h : pL st _ = some o := h
    obtain ⟨v, r, hs, h'⟩ := pL_s h
    clear h
    subst hs
    have h := h'
    clear h'
    obtain ⟨a, r, hs, h'⟩ := pR_s h
    clear h
    subst hs
    have h := h'
    clear h'
    obtain ⟨hc, h⟩ := if_s h
    have e := tyc_1 htc
    refine put_core B (v := .inr (.inl v)) (x := v) hn10 hj hlk hfin (by rw [← htg]; rfl) (fun adr => ?_) hc hd (hk _ _ _ _ h Ext.sv)
    rw [e]
    exact ⟨rfl, rfl⟩
  | 2, htg, htc, h =>
    replace h : pR st _ = some o := h
    obtain ⟨v, r, hs, h'⟩ := pR_s h
    clear h
    subst hs
    have h := h'
    clear h'
    obtain ⟨a, r, hs, h'⟩ := pR_s h
    clear h
    subst hs
    have h := h'
    clear h'
    obtain ⟨hc, h⟩ := if_s h
    refine put_core B (v := .inr (.inr v)) (x := v) hn10 hj hlk hfin (by rw [← htg]; rfl) (fun adr => ?_) hc hd (hk _ _ _ _ h Ext.sv)
    rcases tyc_2 htc with ⟨c, e⟩ | ⟨c, e⟩ <;> rw [e, va_rf_mv] <;> cases rO adr v <;> exact ⟨rfl, rfl⟩
  | 3, htg, htc, h =>
    replace h : pI st _ = some o := h
    obtain ⟨v, r, hs, h'⟩ := pI_s h
    clear h
    subst hs
    have h := h'
    clear h'
    obtain ⟨a, r, hs, h'⟩ := pR_s h
    clear h
    subst hs
    have h := h'
    clear h'
    obtain ⟨hc, h⟩ := if_s h
    have e := tyc_3 htc
    refine put_core B (v := .inl v) (x := v) hn10 hj hlk hfin (by rw [← htg]; rfl) (fun adr => ?_) hc.1 hd (hk _ _ _ _ h Ext.sv)
    rw [e]
    rcases hc.2 with rfl | rfl
    · exact ⟨rfl, rfl⟩
    · exact ⟨rfl, rfl⟩
  | t + 4, htg, htc, h => cases h
theorem sm_getstatic (B : BX Z K) {i : Nat} (hr : (∃ q : Nat, q < 23 ∧ ax = [(q : Int) + 1] ∧ Cond.fieldLink (zo Z) i RX10 (enumN.getD q "") "LBitRopes$Word;" ∈ zt Z) ∨ (ax = [24] ∧ Cond.fieldLink (zo Z) i RX10 "ALL" "[LBitRopes$Word;" ∈ zt Z)) (hd : decode (zC Z) pc = .ok (.getstatic i, 3)) (h : sx C ret (.getstatic i) tg nn ax sw pc ls st w kr k = some o) (hk : KOK Z K w0 adr0 w k o) : AtM Z K w0 adr0 pc ls st w := by
  obtain ⟨x, hax, h'⟩ := a1_s (show aC ax none _ no2 = some o from h)
  clear h
  have h := h'
  clear h'
  intro adr H locs lsM hR hS ho hL hn hl hg hx
  have KN1 := B.2.2.2.2.2.2.1
  have hO := B.2.2.2.2.2.2.2.1.kept
  rcases hr with ⟨q, hq, e, hlk⟩ | ⟨e, hlk⟩
  · obtain rfl : x = (q : Int) + 1 := by rw [hax] at e; simpa using e
    have hkd : kd w ((q : Int) + 1) = 30 := by unfold kd; rw [(hR.1.2.1 q hq).1]
    have hN := hk _ _ _ _ h Ext.rf adr H locs lsM hR hS (okS_c.mpr ⟨Or.inr (by rw [hkd]; omega), ho⟩) hL hn hl hg hx
    simp only [List.map_cons, mv_ref (show (q : Int) + 1 ≠ 0 by omega), hR.2.1 q hq] at hN
    exact va_gets B.1 B.2.1 ((KN1.2.1.kept hO).1 q hq).1 hS B.2.2.2.1 (B.2.2.2.2.1 _ hlk) (fun x h => h) hd hN
  · obtain rfl : x = 24 := by rw [hax] at e; simpa using e
    have hkd : kd w 24 = 27 := by unfold kd; rw [hR.1.2.2.1.1]
    have hN := hk _ _ _ _ h Ext.rf adr H locs lsM hR hS (okS_c.mpr ⟨Or.inr (by rw [hkd]; omega), ho⟩) hL hn hl hg hx
    simp only [List.map_cons, mv_ref (show (24 : Int) ≠ 0 by omega), hR.2.2.1] at hN
    exact va_gets B.1 B.2.1 (KN1.2.2.2.2.2.1.kept hO) hS B.2.2.2.1 (B.2.2.2.2.1 _ hlk) (fun x h => h) hd hN
theorem sm_iaload (B : BX Z K) (hd : decode (zC Z) pc = .ok (.iaload, 1)) (h : sx C ret (.iaload) tg nn ax sw pc ls st w kr k = some o) (hk : KOK Z K w0 adr0 w k o) : AtM Z K w0 adr0 pc ls st w := by
  obtain ⟨i, r, hs, h'⟩ := pI_s h
  clear h
  subst hs
  have h := h'
  clear h'
  obtain ⟨a, r, hs, h'⟩ := pR_s h
  clear h
  subst hs
  have h := h'
  clear h'
  obtain ⟨⟨hc, h0, h1⟩, h⟩ := if_s h
  intro adr H locs lsM hR hS ho hL hn hl hg hx
  have hi1 : in32 i := (okS_c.mp ho).1
  by_cases hkb : 32 ≤ a
  · obtain ⟨hlt, hok⟩ := hR.live hkb (by omega)
    have hv := (hok.resolve_left (by omega)).2.2.1 i
    rw [hc] at hv
    have hget := wsO_get (cA := lcA K) (adr := adr) hkb hlt
    rw [cell_int hc] at hget
    have hN := hk _ _ _ _ h Ext.rf adr H locs lsM hR hS (okS_c.mpr ⟨hv, (okS_c.mp (okS_c.mp ho).2).2⟩) hL hn hl hg hx
    simp only [List.map_cons, mv_ref (show a ≠ 0 by omega)]
    refine va_iald B.1 B.2.1 B.2.2.2.2.2.2.1.1 hR.2.2.2.2.1 _ 0 hget rfl (vp_in_of' hi1 h0 (by omega)) hd ?_
    rw [clamp_of' hi1 h0, show ((i.toNat : Nat) : Int) = i by omega]
    exact hN
  · rcases kd_small (r := a) hR.1 (by omega) (by omega) with ⟨_, z, _⟩ | ⟨ha, _, hln⟩
    · omega
    · subst ha
      have hvv : gv w 25 i = (lcX K i.toNat).toInt := by
        have := hR.1.2.2.2.1.2 i.toNat (by omega)
        rwa [show ((i.toNat : Nat) : Int) = i by omega] at this
      rw [hvv] at h
      have hN := hk _ _ _ _ h Ext.rf adr H locs lsM hR hS (okS_c.mpr ⟨in32_toInt _, (okS_c.mp (okS_c.mp ho).2).2⟩) hL hn hl hg hx
      simp only [List.map_cons, mv_ref (show (25 : Int) ≠ 0 by omega), hR.2.2.2.1]
      have KX := B.2.2.2.2.2.2.1.2.2.2.2.2.2.2.1
      have hO := B.2.2.2.2.2.2.2.1
      refine va_sld B.1 B.2.1 (KX.1.kept (hO.2 _ KX.2)) (Nat.lt_of_lt_of_le KX.2 hO.1) (Nat.not_le.mpr KX.2) hS (vp_in_of' hi1 h0 (by omega)) hd ?_
      rw [clamp_of' hi1 h0]
      simp only [List.map_cons, mvV, ofI_toInt] at hN
      exact hN
theorem sm_baload (B : BX Z K) (hd : decode (zC Z) pc = .ok (.baload, 1)) (h : sx C ret (.baload) tg nn ax sw pc ls st w kr k = some o) (hk : KOK Z K w0 adr0 w k o) : AtM Z K w0 adr0 pc ls st w := by
  obtain ⟨i, r, hs, h'⟩ := pI_s h
  clear h
  subst hs
  have h := h'
  clear h'
  obtain ⟨a, r, hs, h'⟩ := pR_s h
  clear h
  subst hs
  have h := h'
  clear h'
  obtain ⟨⟨hc, h0, h1⟩, h⟩ := if_s h
  intro adr H locs lsM hR hS ho hL hn hl hg hx
  have hi1 : in32 i := (okS_c.mp ho).1
  have hkb : 32 ≤ a := kd_big hR.1 (by omega)
  obtain ⟨hlt, hok⟩ := hR.live hkb (by omega)
  have hv := (hok.resolve_left (by omega)).2.2.1 i
  have hget := wsO_get (cA := lcA K) (adr := adr) hkb hlt
  have hv' : okV w (.inl (gv w a i)) := by
    rcases hc with hc | hc <;> rw [hc] at hv <;> exact hv
  have hN := hk _ _ _ _ h Ext.rf adr H locs lsM hR hS (okS_c.mpr ⟨hv', (okS_c.mp (okS_c.mp ho).2).2⟩) hL hn hl hg hx
  simp only [List.map_cons, mv_ref (show a ≠ 0 by omega)]
  rcases hc with hc | hc
  · rw [cell_byte hc] at hget
    refine va_bald B.1 B.2.1 B.2.2.2.2.2.2.1.1 hR.2.2.2.2.1 _ 1 hget rfl (vp_in_of' hi1 h0 (by omega)) hd ?_
    rw [clamp_of' hi1 h0, show ((i.toNat : Nat) : Int) = i by omega]
    exact hN
  · rw [cell_bool hc] at hget
    refine va_zald B.1 B.2.1 B.2.2.2.2.2.2.1.1 hR.2.2.2.2.1 _ 3 hget rfl (vp_in_of' hi1 h0 (by omega)) hd ?_
    rw [clamp_of' hi1 h0, show ((i.toNat : Nat) : Int) = i by omega]
    exact hN
theorem sm_laload (B : BX Z K) (hd : decode (zC Z) pc = .ok (.laload, 1)) (h : sx C ret (.laload) tg nn ax sw pc ls st w kr k = some o) (hk : KOK Z K w0 adr0 w k o) : AtM Z K w0 adr0 pc ls st w := by
  obtain ⟨i, r, hs, h'⟩ := pI_s h
  clear h
  subst hs
  have h := h'
  clear h'
  obtain ⟨a, r, hs, h'⟩ := pR_s h
  clear h
  subst hs
  have h := h'
  clear h'
  obtain ⟨⟨hc, h0, h1⟩, h⟩ := if_s h
  intro adr H locs lsM hR hS ho hL hn hl hg hx
  have hi1 : in32 i := (okS_c.mp ho).1
  have hkb : 32 ≤ a := kd_big hR.1 (by omega)
  obtain ⟨hlt, hok⟩ := hR.live hkb (by omega)
  have hv := (hok.resolve_left (by omega)).2.2.1 i
  rw [hc] at hv
  have hget := wsO_get (cA := lcA K) (adr := adr) hkb hlt
  rw [cell_long hc] at hget
  have hN := hk _ _ _ _ h Ext.rf adr H locs lsM hR hS (okS_c.mpr ⟨hv, (okS_c.mp (okS_c.mp ho).2).2⟩) hL hn hl hg hx
  simp only [List.map_cons, mv_ref (show a ≠ 0 by omega)]
  refine va_lald B.1 B.2.1 B.2.2.2.2.2.2.1.1 hR.2.2.2.2.1 _ 2 hget rfl (vp_in_of' hi1 h0 (by omega)) hd ?_
  rw [clamp_of' hi1 h0, show ((i.toNat : Nat) : Int) = i by omega]
  exact hN
theorem tys_ref (cA : Nat → ClassId) {n : Nat} (h : n < 4) : ∃ C, (tysO cA)[n + 4]? = some (cA (n + 4), .object C) := by
  rcases (show n = 0 ∨ n = 1 ∨ n = 2 ∨ n = 3 by omega) with rfl | rfl | rfl | rfl <;> exact ⟨_, rfl⟩
theorem sm_aaload (B : BX Z K) (hd : decode (zC Z) pc = .ok (.aaload, 1)) (h : sx C ret (.aaload) tg nn ax sw pc ls st w kr k = some o) (hk : KOK Z K w0 adr0 w k o) : AtM Z K w0 adr0 pc ls st w := by
  obtain ⟨i, r, hs, h'⟩ := pI_s h
  clear h
  subst hs
  have h := h'
  clear h'
  obtain ⟨a, r, hs, h'⟩ := pR_s h
  clear h
  subst hs
  have h := h'
  clear h'
  obtain ⟨⟨hc, h0, h1⟩, h⟩ := if_s h
  intro adr H locs lsM hR hS ho hL hn hl hg hx
  have hi1 : in32 i := (okS_c.mp ho).1
  by_cases hkb : 32 ≤ a
  · obtain ⟨hlt, hok⟩ := hR.live hkb (by omega)
    obtain ⟨n, hn4, hkn⟩ : ∃ n : Nat, n < 4 ∧ kd w a = ((n + 24 : Nat) : Int) := ⟨(kd w a - 24).toNat, by omega, by omega⟩
    have hv := (hok.resolve_left (by omega)).2.2.1 i
    have hel : elT (kd w a) = 2 := by unfold elT; rw [if_neg (by omega), if_pos hc]
    rw [hel] at hv
    have hget := wsO_get (cA := lcA K) (adr := adr) hkb hlt
    rw [cell_ref hkn hn4] at hget
    obtain ⟨C0, hty⟩ := tys_ref (lcA K) hn4
    have hN := hk _ _ _ _ h Ext.rf adr H locs lsM hR hS (okS_c.mpr ⟨hv, (okS_c.mp (okS_c.mp ho).2).2⟩) hL hn hl hg hx
    simp only [List.map_cons, va_rf_mv] at hN
    simp only [List.map_cons, mv_ref (show a ≠ 0 by omega)]
    refine va_aldq B.1 B.2.1 B.2.2.2.2.2.2.1.1 hR.2.2.2.2.1 _ _ hget hty (vp_in_of' hi1 h0 (by omega)) hd ?_
    rw [clamp_of' hi1 h0, show ((i.toNat : Nat) : Int) = i by omega]
    exact hN
  · rcases kd_small (r := a) hR.1 (by omega) (by omega) with ⟨ha, _, hln⟩ | ⟨_, z, _⟩
    · subst ha
      have hvv : gv w 24 i = i + 1 := by
        have := hR.1.2.2.1.2 i.toNat (by omega)
        rwa [show ((i.toNat : Nat) : Int) = i by omega] at this
      have hq : i.toNat < 23 := by omega
      have hkd : kd w (i + 1) = 30 := by
        have := (hR.1.2.1 i.toNat hq).1
        rw [show ((i.toNat : Nat) : Int) + 1 = i + 1 by omega] at this
        unfold kd; rw [this]
      have had : adr (i + 1) = lcE K i.toNat := by
        have := hR.2.1 i.toNat hq
        rwa [show ((i.toNat : Nat) : Int) + 1 = i + 1 by omega] at this
      rw [hvv] at h
      have hN := hk _ _ _ _ h Ext.rf adr H locs lsM hR hS (okS_c.mpr ⟨Or.inr (by rw [hkd]; omega), (okS_c.mp (okS_c.mp ho).2).2⟩) hL hn hl hg hx
      simp only [List.map_cons, mv_ref (show i + 1 ≠ 0 by omega), had] at hN
      simp only [List.map_cons, mv_ref (show (24 : Int) ≠ 0 by omega), hR.2.2.1]
      have KT := B.2.2.2.2.2.2.1.2.2.2.2.2.2.1.kept B.2.2.2.2.2.2.2.1.kept
      obtain ⟨cell, t1, t2, t3, t4, t5, t6, t7⟩ := KT
      have hin := vp_in_of' hi1 h0 (show i < ((23 : Nat) : Int) by omega)
      have hlt : (Int32.ofInt i).toNatClampNeg < 23 := Nat.not_le.mp fun q => hin (Or.inr q)
      have hin' : ¬ (Int32.ofInt i < 0 ∨ cell.slots.size ≤ (Int32.ofInt i).toNatClampNeg) := by
        intro q
        rcases q with q | q
        · exact hin (Or.inl q)
        · omega
      refine W.aald (v := .ref (lcE K i.toNat)) (ty := .object RX10) B.1 B.2.1 (by rw [hS.2.1 _ (Array.getElem?_eq_some_iff.mp t1).1 t7]; exact t1) t2 rfl t3 hin' (by rw [t6 _ hlt, clamp_of' hi1 h0]) rfl rfl hd hN
    · omega
theorem sm_iastore (B : BX Z K) (hd : decode (zC Z) pc = .ok (.iastore, 1)) (h : sx C ret (.iastore) tg nn ax sw pc ls st w kr k = some o) (hk : KOK Z K w0 adr0 w k o) : AtM Z K w0 adr0 pc ls st w := by
  obtain ⟨v, r, hs, h'⟩ := pI_s h
  clear h
  subst hs
  have h := h'
  clear h'
  obtain ⟨i, r, hs, h'⟩ := pI_s h
  clear h
  subst hs
  have h := h'
  clear h'
  obtain ⟨a, r, hs, h'⟩ := pR_s h
  clear h
  subst hs
  have h := h'
  clear h'
  obtain ⟨⟨hc, h0, h1⟩, h⟩ := if_s h
  intro adr H locs lsM hR hS ho hL hn hl hg hx
  have hv1 := (okS_c.mp ho).1
  have hi1 : in32 i := (okS_c.mp (okS_c.mp ho).2).1
  have hst := (okS_c.mp (okS_c.mp (okS_c.mp ho).2).2).2
  have hst' : okS (sv w a i v) _ := fun u hu => (okV_kd (kd_sv w a i v)).mpr (hst u hu)
  have hL' : okL (sv w a i v) ls := fun u hu => (okV_kd (kd_sv w a i v)).mpr (hL u hu)
  have hkb : 32 ≤ a := hc.2
  obtain ⟨hlt, hok⟩ := hR.live hkb (by omega)
  have hnew : okC (sv w a i v) a := okC_sva hok (by omega) (by rw [hc.1]; exact hv1) (fun z => by omega)
  have hW' : WFw (lcL K) (lcX K) (sv w a i v) := hR.1.upd rfl rfl (fun b j' hb => by rw [gv_sv, if_neg (fun z => hb z.1)]) hkb hnew
  have hget := wsO_get (cA := lcA K) (adr := adr) hkb hlt
  rw [cell_int hc.1] at hget
  have hws : wsO (lcA K) adr (sv w a i v) = (wsO (lcA K) adr w).set (a - 32).toNat (adr a, .inl (lcA K 0, (ln w a).toNat, .inl (upd (fun j : Nat => Int32.ofInt (gv w a j)) i.toNat (Int32.ofInt v)))) := by
    rw [wsO_set (w := w) (w' := sv w a i v) hkb hlt rfl cellOf_sv, cell_int (show kd (sv w a i v) a = 20 from hc.1), upd_of h0 _ rfl]
    rfl
  simp only [List.map_cons, mv_ref (show a ≠ 0 by omega)]
  refine va_iast B.1 B.2.1 B.2.2.2.2.2.2.1.1 hR.2.2.2.2.1 hR.2.2.2.2.2 hS _ 0 hget rfl (vp_in_of' hi1 h0 (by omega)) hd fun H1 locs1 p1 p2 p3 => ?_
  rw [clamp_of' hi1 h0, ← hws] at p1 p2
  exact hk _ _ _ _ h Ext.sv adr H1 locs1 lsM ⟨hW', hR.2.1, hR.2.2.1, hR.2.2.2.1, p1, p2⟩ p3 hst' hL' hn hl hg (hx.tr Ext.sv)
theorem nar_bool {v : Int} (h : v = 0 ∨ v = 1) : vp_nar .boolean (Int32.ofInt v) = Int32.ofInt v := by
  rcases h with rfl | rfl <;> rfl
theorem sm_bastore (B : BX Z K) (hd : decode (zC Z) pc = .ok (.bastore, 1)) (h : sx C ret (.bastore) tg nn ax sw pc ls st w kr k = some o) (hk : KOK Z K w0 adr0 w k o) : AtM Z K w0 adr0 pc ls st w := by
  obtain ⟨v, r, hs, h'⟩ := pI_s h
  clear h
  subst hs
  have h := h'
  clear h'
  obtain ⟨i, r, hs, h'⟩ := pI_s h
  clear h
  subst hs
  have h := h'
  clear h'
  obtain ⟨a, r, hs, h'⟩ := pR_s h
  clear h
  subst hs
  have h := h'
  clear h'
  obtain ⟨⟨hc, h0, h1⟩, h⟩ := if_s h
  intro adr H locs lsM hR hS ho hL hn hl hg hx
  have hv1 := (okS_c.mp ho).1
  have hi1 : in32 i := (okS_c.mp (okS_c.mp ho).2).1
  have hst := (okS_c.mp (okS_c.mp (okS_c.mp ho).2).2).2
  have hst' : okS (sv w a i v) _ := fun u hu => (okV_kd (kd_sv w a i v)).mpr (hst u hu)
  have hL' : okL (sv w a i v) ls := fun u hu => (okV_kd (kd_sv w a i v)).mpr (hL u hu)
  have hkb : 32 ≤ a := kd_big hR.1 (by omega)
  obtain ⟨hlt, hok⟩ := hR.live hkb (by omega)
  have hnew : okC (sv w a i v) a := okC_sva hok (by omega) (by rcases hc with hc | hc <;> rw [hc.1] <;> exact hv1) (fun z => by rcases hc with hc | hc <;> omega)
  have hW' : WFw (lcL K) (lcX K) (sv w a i v) := hR.1.upd rfl rfl (fun b j' hb => by rw [gv_sv, if_neg (fun z => hb z.1)]) hkb hnew
  have hget := wsO_get (cA := lcA K) (adr := adr) hkb hlt
  simp only [List.map_cons, mv_ref (show a ≠ 0 by omega)]
  rcases hc with hc | hc
  · rw [cell_byte hc.1] at hget
    have hws : wsO (lcA K) adr (sv w a i v) = (wsO (lcA K) adr w).set (a - 32).toNat (adr a, .inl (lcA K 1, (ln w a).toNat, .inl (upd (fun j : Nat => Int32.ofInt (gv w a j)) i.toNat (vp_nar .byte (Int32.ofInt v))))) := by
      rw [wsO_set (w := w) (w' := sv w a i v) hkb hlt rfl cellOf_sv, cell_byte (show kd (sv w a i v) a = 21 from hc.1), upd_of h0 _ (by rw [vp_nar_byte]; exact i2b_of hc.2.1 hc.2.2)]
      rfl
    refine va_bast B.1 B.2.1 B.2.2.2.2.2.2.1.1 hR.2.2.2.2.1 hR.2.2.2.2.2 hS _ 1 hget rfl (vp_in_of' hi1 h0 (by omega)) hd fun H1 locs1 p1 p2 p3 => ?_
    rw [clamp_of' hi1 h0, ← hws] at p1 p2
    exact hk _ _ _ _ h Ext.sv adr H1 locs1 lsM ⟨hW', hR.2.1, hR.2.2.1, hR.2.2.2.1, p1, p2⟩ p3 hst' hL' hn hl hg (hx.tr Ext.sv)
  · rw [cell_bool hc.1] at hget
    have hws : wsO (lcA K) adr (sv w a i v) = (wsO (lcA K) adr w).set (a - 32).toNat (adr a, .inl (lcA K 3, (ln w a).toNat, .inl (upd (fun j : Nat => Int32.ofInt (gv w a j)) i.toNat (vp_nar .boolean (Int32.ofInt v))))) := by
      rw [wsO_set (w := w) (w' := sv w a i v) hkb hlt rfl cellOf_sv, cell_bool (show kd (sv w a i v) a = 23 from hc.1), upd_of h0 _ (nar_bool hc.2)]
      rfl
    refine va_zast B.1 B.2.1 B.2.2.2.2.2.2.1.1 hR.2.2.2.2.1 hR.2.2.2.2.2 hS _ 3 hget rfl (vp_in_of' hi1 h0 (by omega)) hd fun H1 locs1 p1 p2 p3 => ?_
    rw [clamp_of' hi1 h0, ← hws] at p1 p2
    exact hk _ _ _ _ h Ext.sv adr H1 locs1 lsM ⟨hW', hR.2.1, hR.2.2.1, hR.2.2.2.1, p1, p2⟩ p3 hst' hL' hn hl hg (hx.tr Ext.sv)
theorem sm_lastore (B : BX Z K) (hd : decode (zC Z) pc = .ok (.lastore, 1)) (h : sx C ret (.lastore) tg nn ax sw pc ls st w kr k = some o) (hk : KOK Z K w0 adr0 w k o) : AtM Z K w0 adr0 pc ls st w := by
  obtain ⟨v, r, hs, h'⟩ := pL_s h
  clear h
  subst hs
  have h := h'
  clear h'
  obtain ⟨i, r, hs, h'⟩ := pI_s h
  clear h
  subst hs
  have h := h'
  clear h'
  obtain ⟨a, r, hs, h'⟩ := pR_s h
  clear h
  subst hs
  have h := h'
  clear h'
  obtain ⟨⟨hc, h0, h1⟩, h⟩ := if_s h
  intro adr H locs lsM hR hS ho hL hn hl hg hx
  have hv1 := (okS_c.mp ho).1
  have hi1 : in32 i := (okS_c.mp (okS_c.mp ho).2).1
  have hst := (okS_c.mp (okS_c.mp (okS_c.mp ho).2).2).2
  have hst' : okS (sv w a i v) _ := fun u hu => (okV_kd (kd_sv w a i v)).mpr (hst u hu)
  have hL' : okL (sv w a i v) ls := fun u hu => (okV_kd (kd_sv w a i v)).mpr (hL u hu)
  have hkb : 32 ≤ a := kd_big hR.1 (by omega)
  obtain ⟨hlt, hok⟩ := hR.live hkb (by omega)
  have hnew : okC (sv w a i v) a := okC_sva hok (by omega) (by rw [hc]; exact hv1) (fun z => by omega)
  have hW' : WFw (lcL K) (lcX K) (sv w a i v) := hR.1.upd rfl rfl (fun b j' hb => by rw [gv_sv, if_neg (fun z => hb z.1)]) hkb hnew
  have hget := wsO_get (cA := lcA K) (adr := adr) hkb hlt
  rw [cell_long hc] at hget
  have hws : wsO (lcA K) adr (sv w a i v) = (wsO (lcA K) adr w).set (a - 32).toNat (adr a, .inl (lcA K 2, (ln w a).toNat, .inr (.inl (vp_updL (fun j : Nat => Int64.ofInt (gv w a j)) i.toNat (Int64.ofInt v))))) := by
    rw [wsO_set (w := w) (w' := sv w a i v) hkb hlt rfl cellOf_sv, cell_long (show kd (sv w a i v) a = 22 from hc), updL_of h0]
    rfl
  simp only [List.map_cons, mv_ref (show a ≠ 0 by omega)]
  refine va_last B.1 B.2.1 B.2.2.2.2.2.2.1.1 hR.2.2.2.2.1 hR.2.2.2.2.2 hS _ 2 hget rfl (vp_in_of' hi1 h0 (by omega)) hd fun H1 locs1 p1 p2 p3 => ?_
  rw [clamp_of' hi1 h0, ← hws] at p1 p2
  exact hk _ _ _ _ h Ext.sv adr H1 locs1 lsM ⟨hW', hR.2.1, hR.2.2.1, hR.2.2.2.1, p1, p2⟩ p3 hst' hL' hn hl hg (hx.tr Ext.sv)
end SG
