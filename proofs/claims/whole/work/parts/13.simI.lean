/-! ===== new arrays, arraycopy, max and min, Object's constructor (printed by wip/whole/simi.py) ===== -/
section SI
variable {Z : MZ} {K : LC} {w0 w : sW} {adr0 : Int → Nat} {C : sC} {ret tg pc : Nat} {nn : List Nat} {ax : List Int} {sw : List (Int × Nat)} {ls : sL} {st : List sV} {kr : Option sV → sW → Option sO} {k : Nat → sL → List sV → sW → Option sO} {o : sO}
/-- behind a new array -/
theorem arr_core (B : BX Z K) {κ len : Int} {adr : Int → Nat} {H1 : Heap} {locs : List Loc} {lsM : Array Slot} {H : Heap} {q : Nat} {e : va_E} (h : k pc ls (.inr (.inr (nx w)) :: st) (al w κ len len.toNat) = some o) (hk : KOK Z K w0 adr0 w k o) (hR : RW K w adr H) (ho : okS w st) (hL : okL w ls) (hn : ls.length = zn Z) (hl : lv_has lsM (zn Z) (lvs adr ls 0)) (hg : ∀ r, r < nx w0 → adr r = adr0 r) (hx : Ext w0 w) (hκ : (20 ≤ κ ∧ κ ≤ 27) ∧ 0 ≤ len ∧ len ≤ 100000)
    (he : cellOf (lcA K) (adrN adr w q) (al w κ len len.toNat) (nx w) = e) (p1 : va_P (lcD K) vwCl (wsO (lcA K) adr w ++ [(q, e)]) H1) (p2 : va_D (oldA K) (wsO (lcA K) adr w ++ [(q, e)])) (p3 : va_S (oldA K) (zs Z).heap H1 locs) :
    Wz Z H1 locs (uc w - uc w0 + 1) (us w - us w0 + len.toNat) (F0 (zm Z) pc lsM (.ref q :: st.map (mvV adr))) := by
  obtain ⟨f1, f2, f3, f4, f5⟩ := al_frame (K := K) (q := q) (κ := κ) (len := len) (n := len.toNat) hR.1 ho hL hl hg hx
  obtain ⟨u1, u2⟩ := uc_al (κ := κ) (len := len) (n := len.toNat) hx
  rw [← he, ← wsO_al hR.1] at p1 p2
  have h32 := hR.1.1
  have hkk : kd (al w κ len len.toNat) (nx w) ≠ 0 := by rw [kd_al, if_pos rfl]; omega
  have hN := hk _ _ _ _ h Ext.al (adrN adr w q) H1 locs lsM ⟨WFw_al hR.1 (Or.inr hκ), fun k hk => by rw [adrN_old (by omega)]; exact hR.2.1 k hk, by rw [adrN_old (by omega)]; exact hR.2.2.1, by rw [adrN_old (by omega)]; exact hR.2.2.2.1, p1, p2⟩ p3 (okS_c.mpr ⟨Or.inr hkk, f1⟩) f2 hn f3 f4 (hx.tr Ext.al)
  simp only [List.map_cons, mv_ref (show nx w ≠ 0 by omega), f5] at hN
  rw [u1, u2] at hN
  have e2 : adrN adr w q (nx w) = q := if_pos rfl
  rw [e2] at hN
  exact hN
theorem sm_newarr_int (B : BX Z K) (hr : ax = [20] ∧ Cond.arrayClass .int ∈ zt Z) (hd : decode (zC Z) pc = .ok (.newarray .int, 2)) (hB : ∀ pc ls st w', k pc ls st w' = some o → uc w' - uc w0 ≤ (zR Z).cells ∧ us w' - us w0 ≤ (zR Z).slots) (h : sx C ret (.newarray .int) tg nn ax sw pc ls st w kr k = some o) (hk : KOK Z K w0 adr0 w k o) : AtM Z K w0 adr0 pc ls st w := by
  obtain ⟨hax, w1⟩ := hr
  subst hax
  replace h : pI st _ = some o := h
  obtain ⟨n, r, hs, h'⟩ := pI_s h
  clear h
  subst hs
  have h := h'
  clear h'
  obtain ⟨⟨h0, h1⟩, h⟩ := if_s h
  intro adr H locs lsM hR hS ho hL hn hl hg hx
  have hA : ∀ q : Nat, (zs Z).heap.size ≤ q → oldA K q := fun q hq => Nat.le_trans B.2.2.2.2.2.2.2.1.1 hq
  have hn1 : in32 n := (okS_c.mp ho).1
  obtain ⟨b1, b2⟩ := hB _ _ _ _ h
  obtain ⟨u1, u2⟩ := uc_al (κ := 20) (len := n) (n := n.toNat) hx
  rw [u1] at b1
  rw [u2] at b2
  refine va_newa (N' := n.toNat) (a0 := (n.toNat, .inl (fun _ => (0 : Int32)))) (atype := .int) (ty := .int) B.1 B.2.1 (B.2.2.2.2.1 _ w1) rfl B.2.2.2.2.2.2.1.1 hR.2.2.2.2.1 hR.2.2.2.2.2 hS hA (fun cA => rfl) (fun z => by have := (ofI_lt0 hn1).mp z; omega) (clamp_of' hn1 h0) (by show n.toNat * 4 ≤ 536870912; omega) b1 b2 hd (fun q cA H1 pk p1 p2 p3 => ?_)
  have hcA : cA = lcA K 0 := by
    have e1 := (pk.2 8 (cA, .int) rfl).2
    have e2 := (pk.2 0 (lcA K 0, .int) rfl).2
    exact Option.some.inj (Eq.trans (Eq.symm (show (zs Z).vm.findClass _ = some cA from e1)) (show (zs Z).vm.findClass _ = some (lcA K 0) from e2))
  subst hcA
  refine arr_core B h hk hR (okS_c.mp ho).2 hL hn hl hg hx ⟨by omega, h0, h1⟩ ?_ p1 p2 p3
  rw [cell_int (by rw [kd_al, if_pos rfl]), ln_al, if_pos rfl]
  simp only [gv_al, if_true]
  rfl
theorem sm_newarr_byte (B : BX Z K) (hr : ax = [21] ∧ Cond.arrayClass .byte ∈ zt Z) (hd : decode (zC Z) pc = .ok (.newarray .byte, 2)) (hB : ∀ pc ls st w', k pc ls st w' = some o → uc w' - uc w0 ≤ (zR Z).cells ∧ us w' - us w0 ≤ (zR Z).slots) (h : sx C ret (.newarray .byte) tg nn ax sw pc ls st w kr k = some o) (hk : KOK Z K w0 adr0 w k o) : AtM Z K w0 adr0 pc ls st w := by
  obtain ⟨hax, w1⟩ := hr
  subst hax
  replace h : pI st _ = some o := h
  obtain ⟨n, r, hs, h'⟩ := pI_s h
  clear h
  subst hs
  have h := h'
  clear h'
  obtain ⟨⟨h0, h1⟩, h⟩ := if_s h
  intro adr H locs lsM hR hS ho hL hn hl hg hx
  have hA : ∀ q : Nat, (zs Z).heap.size ≤ q → oldA K q := fun q hq => Nat.le_trans B.2.2.2.2.2.2.2.1.1 hq
  have hn1 : in32 n := (okS_c.mp ho).1
  obtain ⟨b1, b2⟩ := hB _ _ _ _ h
  obtain ⟨u1, u2⟩ := uc_al (κ := 21) (len := n) (n := n.toNat) hx
  rw [u1] at b1
  rw [u2] at b2
  refine va_newa (N' := n.toNat) (a0 := (n.toNat, .inl (fun _ => (0 : Int32)))) (atype := .byte) (ty := .byte) B.1 B.2.1 (B.2.2.2.2.1 _ w1) rfl B.2.2.2.2.2.2.1.1 hR.2.2.2.2.1 hR.2.2.2.2.2 hS hA (fun cA => rfl) (fun z => by have := (ofI_lt0 hn1).mp z; omega) (clamp_of' hn1 h0) (by show n.toNat * 1 ≤ 536870912; omega) b1 b2 hd (fun q cA H1 pk p1 p2 p3 => ?_)
  have hcA : cA = lcA K 1 := by
    have e1 := (pk.2 8 (cA, .byte) rfl).2
    have e2 := (pk.2 1 (lcA K 1, .byte) rfl).2
    exact Option.some.inj (Eq.trans (Eq.symm (show (zs Z).vm.findClass _ = some cA from e1)) (show (zs Z).vm.findClass _ = some (lcA K 1) from e2))
  subst hcA
  refine arr_core B h hk hR (okS_c.mp ho).2 hL hn hl hg hx ⟨by omega, h0, h1⟩ ?_ p1 p2 p3
  rw [cell_byte (by rw [kd_al, if_pos rfl]), ln_al, if_pos rfl]
  simp only [gv_al, if_true]
  rfl
theorem sm_newarr_long (B : BX Z K) (hr : ax = [22] ∧ Cond.arrayClass .long ∈ zt Z) (hd : decode (zC Z) pc = .ok (.newarray .long, 2)) (hB : ∀ pc ls st w', k pc ls st w' = some o → uc w' - uc w0 ≤ (zR Z).cells ∧ us w' - us w0 ≤ (zR Z).slots) (h : sx C ret (.newarray .long) tg nn ax sw pc ls st w kr k = some o) (hk : KOK Z K w0 adr0 w k o) : AtM Z K w0 adr0 pc ls st w := by
  obtain ⟨hax, w1⟩ := hr
  subst hax
  replace h : pI st _ = some o := h
  obtain ⟨n, r, hs, h'⟩ := pI_s h
  clear h
  subst hs
  have h := h'
  clear h'
  obtain ⟨⟨h0, h1⟩, h⟩ := if_s h
  intro adr H locs lsM hR hS ho hL hn hl hg hx
  have hA : ∀ q : Nat, (zs Z).heap.size ≤ q → oldA K q := fun q hq => Nat.le_trans B.2.2.2.2.2.2.2.1.1 hq
  have hn1 : in32 n := (okS_c.mp ho).1
  obtain ⟨b1, b2⟩ := hB _ _ _ _ h
  obtain ⟨u1, u2⟩ := uc_al (κ := 22) (len := n) (n := n.toNat) hx
  rw [u1] at b1
  rw [u2] at b2
  refine va_newa (N' := n.toNat) (a0 := (n.toNat, .inr (.inl (fun _ => (0 : Int64))))) (atype := .long) (ty := .long) B.1 B.2.1 (B.2.2.2.2.1 _ w1) rfl B.2.2.2.2.2.2.1.1 hR.2.2.2.2.1 hR.2.2.2.2.2 hS hA (fun cA => rfl) (fun z => by have := (ofI_lt0 hn1).mp z; omega) (clamp_of' hn1 h0) (by show n.toNat * 8 ≤ 536870912; omega) b1 b2 hd (fun q cA H1 pk p1 p2 p3 => ?_)
  have hcA : cA = lcA K 2 := by
    have e1 := (pk.2 8 (cA, .long) rfl).2
    have e2 := (pk.2 2 (lcA K 2, .long) rfl).2
    exact Option.some.inj (Eq.trans (Eq.symm (show (zs Z).vm.findClass _ = some cA from e1)) (show (zs Z).vm.findClass _ = some (lcA K 2) from e2))
  subst hcA
  refine arr_core B h hk hR (okS_c.mp ho).2 hL hn hl hg hx ⟨by omega, h0, h1⟩ ?_ p1 p2 p3
  rw [cell_long (by rw [kd_al, if_pos rfl]), ln_al, if_pos rfl]
  simp only [gv_al, if_true]
  rfl
theorem sm_newarr_bool (B : BX Z K) (hr : ax = [23] ∧ Cond.arrayClass .boolean ∈ zt Z) (hd : decode (zC Z) pc = .ok (.newarray .boolean, 2)) (hB : ∀ pc ls st w', k pc ls st w' = some o → uc w' - uc w0 ≤ (zR Z).cells ∧ us w' - us w0 ≤ (zR Z).slots) (h : sx C ret (.newarray .boolean) tg nn ax sw pc ls st w kr k = some o) (hk : KOK Z K w0 adr0 w k o) : AtM Z K w0 adr0 pc ls st w := by
  obtain ⟨hax, w1⟩ := hr
  subst hax
  replace h : pI st _ = some o := h
  obtain ⟨n, r, hs, h'⟩ := pI_s h
  clear h
  subst hs
  have h := h'
  clear h'
  obtain ⟨⟨h0, h1⟩, h⟩ := if_s h
  intro adr H locs lsM hR hS ho hL hn hl hg hx
  have hA : ∀ q : Nat, (zs Z).heap.size ≤ q → oldA K q := fun q hq => Nat.le_trans B.2.2.2.2.2.2.2.1.1 hq
  have hn1 : in32 n := (okS_c.mp ho).1
  obtain ⟨b1, b2⟩ := hB _ _ _ _ h
  obtain ⟨u1, u2⟩ := uc_al (κ := 23) (len := n) (n := n.toNat) hx
  rw [u1] at b1
  rw [u2] at b2
  refine va_newa (N' := n.toNat) (a0 := (n.toNat, .inl (fun _ => (0 : Int32)))) (atype := .boolean) (ty := .boolean) B.1 B.2.1 (B.2.2.2.2.1 _ w1) rfl B.2.2.2.2.2.2.1.1 hR.2.2.2.2.1 hR.2.2.2.2.2 hS hA (fun cA => rfl) (fun z => by have := (ofI_lt0 hn1).mp z; omega) (clamp_of' hn1 h0) (by show n.toNat * 1 ≤ 536870912; omega) b1 b2 hd (fun q cA H1 pk p1 p2 p3 => ?_)
  have hcA : cA = lcA K 3 := by
    have e1 := (pk.2 8 (cA, .boolean) rfl).2
    have e2 := (pk.2 3 (lcA K 3, .boolean) rfl).2
    exact Option.some.inj (Eq.trans (Eq.symm (show (zs Z).vm.findClass _ = some cA from e1)) (show (zs Z).vm.findClass _ = some (lcA K 3) from e2))
  subst hcA
  refine arr_core B h hk hR (okS_c.mp ho).2 hL hn hl hg hx ⟨by omega, h0, h1⟩ ?_ p1 p2 p3
  rw [cell_bool (by rw [kd_al, if_pos rfl]), ln_al, if_pos rfl]
  simp only [gv_al, if_true]
  rfl
theorem sm_anewarray (B : BX Z K) {i : Nat} (hr : ∃ t : Nat, t < 4 ∧ ax = [((t + 24 : Nat) : Int)] ∧ Cond.classLink (zo Z) i ([RX5, RX8, RX7, RX10].getD t "") ∈ zt Z) (hd : decode (zC Z) pc = .ok (.anewarray i, 3)) (hB : ∀ pc ls st w', k pc ls st w' = some o → uc w' - uc w0 ≤ (zR Z).cells ∧ us w' - us w0 ≤ (zR Z).slots) (h : sx C ret (.anewarray i) tg nn ax sw pc ls st w kr k = some o) (hk : KOK Z K w0 adr0 w k o) : AtM Z K w0 adr0 pc ls st w := by
  obtain ⟨t, ht4, hax, w1⟩ := hr
  subst hax
  replace h : pI st _ = some o := h
  obtain ⟨n, r, hs, h'⟩ := pI_s h
  clear h
  subst hs
  have h := h'
  clear h'
  obtain ⟨⟨h0, h1⟩, h⟩ := if_s h
  intro adr H locs lsM hR hS ho hL hn hl hg hx
  have hA : ∀ q : Nat, (zs Z).heap.size ≤ q → oldA K q := fun q hq => Nat.le_trans B.2.2.2.2.2.2.2.1.1 hq
  have hn1 : in32 n := (okS_c.mp ho).1
  obtain ⟨b1, b2⟩ := hB _ _ _ _ h
  obtain ⟨u1, u2⟩ := uc_al (κ := ((t + 24 : Nat) : Int)) (len := n) (n := n.toNat) hx
  rw [u1] at b1
  rw [u2] at b2
  have hmem : [RX5, RX8, RX7, RX10].getD t "" ∈ [RX5, RX8, RX7, RX10] := by
    rcases (show t = 0 ∨ t = 1 ∨ t = 2 ∨ t = 3 by omega) with rfl | rfl | rfl | rfl <;> simp
  have hty : (tysO (lcA K))[t + 4]? = some (lcA K (t + 4), .object ([RX5, RX8, RX7, RX10].getD t "")) := by
    rcases (show t = 0 ∨ t = 1 ∨ t = 2 ∨ t = 3 by omega) with rfl | rfl | rfl | rfl <;> rfl
  refine va_newq (N' := n.toNat) B.1 B.2.1 B.2.2.2.1 (B.2.2.2.2.1 _ w1) (B.2.2.2.2.2.2.1.2.2.2.2.2.2.2.2.2.1 _ hmem) B.2.2.2.2.2.2.1.1 hR.2.2.2.2.1 hR.2.2.2.2.2 hS hA (fun z => by have := (ofI_lt0 hn1).mp z; omega) (clamp_of' hn1 h0) (by omega) b1 b2 hd (fun q cA H1 pk p1 p2 p3 => ?_)
  have hcA : cA = lcA K (t + 4) := by
    obtain ⟨_, _, _, _, _, e1⟩ := (pk.2 8 (cA, .object ([RX5, RX8, RX7, RX10].getD t "")) rfl).2
    obtain ⟨_, _, _, _, _, e2⟩ := (B.2.2.2.2.2.2.1.1.2 (t + 4) _ hty).2
    exact Option.some.inj (e1.symm.trans e2)
  subst hcA
  refine arr_core B h hk hR (okS_c.mp ho).2 hL hn hl hg hx ⟨by omega, h0, h1⟩ ?_ p1 p2 p3
  rw [cell_ref (n := t) (by rw [kd_al, if_pos rfl]) ht4, ln_al, if_pos rfl]
  simp only [gv_al, if_true]
  rfl
theorem cpy_of {w : sW} {a d sp dp n : Int} (h0 : 0 ≤ sp) (h1 : 0 ≤ dp) (h2 : 0 ≤ n) : va_cpy (fun j : Nat => Int32.ofInt (gv w a j)) (fun j : Nat => Int32.ofInt (gv w d j)) sp.toNat dp.toNat n.toNat = fun j : Nat => Int32.ofInt (gv (cp w a sp d dp n) d j) := by
  funext j
  rw [gv_cp]
  unfold va_cpy
  by_cases e : dp.toNat ≤ j ∧ j < dp.toNat + n.toNat
  · rw [if_pos e, if_pos ⟨rfl, by omega, by omega⟩]
    show Int32.ofInt (gv w a ((sp.toNat + (j - dp.toNat) : Nat) : Int)) = _
    rw [show ((sp.toNat + (j - dp.toNat) : Nat) : Int) = sp + ((j : Int) - dp) by omega]
  · rw [if_neg e, if_neg (fun z => e (by omega))]
theorem okC_cp {w : sW} {a d sp dp n : Int} (ha : okC w a) (hd : okC w d) (hk : kd w a = kd w d) (h20 : 20 ≤ kd w d) : okC (cp w a sp d dp n) d := by
  right
  have h1 := hd.resolve_left (by omega)
  have h2 := ha.resolve_left (by omega)
  refine ⟨h1.1, h1.2.1, fun j => ?_, fun hb j => ?_⟩
  · rw [gv_cp, kd_cp, okV_kd (kd_cp w a sp d dp n)]
    split
    · rw [← hk]; exact h2.2.2.1 _
    · exact h1.2.2.1 j
  · rw [gv_cp]
    split
    · exact h2.2.2.2 (by rw [hk]; exact hb) _
    · exact h1.2.2.2 hb j
theorem sm_arraycopy (B : BX Z K) {i : Nat} (hr : nn = [0] ∧ Cond.methodLink (zo Z) i arraycopyName ∈ zt Z ∧ Cond.native arraycopyName ∈ zt Z ∧ Cond.static arraycopyName ∈ zt Z ∧ Cond.initialized "java/lang/System" ∈ zt Z) (hd : decode (zC Z) pc = .ok (.invokestatic i, 3)) (h : sx C ret (.invokestatic i) tg nn ax sw pc ls st w kr k = some o) (hk : KOK Z K w0 adr0 w k o) : AtM Z K w0 adr0 pc ls st w := by
  obtain ⟨hnn, w1, w2, w3, w4⟩ := hr
  subst hnn
  replace h : pI st _ = some o := h
  obtain ⟨n, r, hs, h'⟩ := pI_s h
  clear h
  subst hs
  have h := h'
  clear h'
  obtain ⟨dp, r, hs, h'⟩ := pI_s h
  clear h
  subst hs
  have h := h'
  clear h'
  obtain ⟨d, r, hs, h'⟩ := pR_s h
  clear h
  subst hs
  have h := h'
  clear h'
  obtain ⟨sp, r, hs, h'⟩ := pI_s h
  clear h
  subst hs
  have h := h'
  clear h'
  obtain ⟨a, r, hs, h'⟩ := pR_s h
  clear h
  subst hs
  have h := h'
  clear h'
  obtain ⟨⟨hc, g1, g2, g3, g4, g5, g6, g7⟩, h⟩ := if_s h
  obtain ⟨h8, h⟩ := c8_s h
  intro adr H locs lsM hR hS ho hL hn hl hg hx
  have ho1 := (okS_c.mp ho).2
  have ho2 := (okS_c.mp ho1).2
  have ho3 := (okS_c.mp ho2).2
  have ho4 := (okS_c.mp ho3).2
  have hst := (okS_c.mp ho4).2
  have hn1 : in32 n := (okS_c.mp ho).1
  have hdp1 : in32 dp := (okS_c.mp ho1).1
  have hsp1 : in32 sp := (okS_c.mp ho3).1
  obtain ⟨hlt1, hok1⟩ := hR.live g1 (by omega)
  obtain ⟨hlt2, hok2⟩ := hR.live g2 (by omega)
  have hW' : WFw (lcL K) (lcX K) (cp w a sp d dp n) := hR.1.upd rfl rfl (fun b j' hb => by rw [gv_cp, if_neg (fun z => hb z.1)]) g2 (okC_cp hok1 hok2 (by omega) (by omega))
  have hst' : okS (cp w a sp d dp n) r := fun u hu => (okV_kd (kd_cp w a sp d dp n)).mpr (hst u hu)
  have hL' : okL (cp w a sp d dp n) ls := fun u hu => (okV_kd (kd_cp w a sp d dp n)).mpr (hL u hu)
  have hgA := wsO_get (cA := lcA K) (adr := adr) g1 hlt1
  have hgD := wsO_get (cA := lcA K) (adr := adr) g2 hlt2
  have hRm := B.2.2.2.2.2.2.2.2
  have hcs : (List.map (fun v : Value => v.category) (List.map (mvV adr) r)).sum + (nativeFrameWords "java/lang/System" "arraycopy" 5 + 11) ≤ (zR Z).locals := by
    rw [catSum_mv, show nativeFrameWords "java/lang/System" "arraycopy" 5 = 7 by decide]
    have := hRm.2
    omega
  simp only [List.map_cons, mv_ref (show a ≠ 0 by omega), mv_ref (show d ≠ 0 by omega)]
  rcases hc with hc | hc
  · rw [cell_int hc.1] at hgA
    rw [cell_int hc.2] at hgD
    have hws : wsO (lcA K) adr (cp w a sp d dp n) = (wsO (lcA K) adr w).set (d - 32).toNat (adr d, .inl (lcA K 0, (ln w d).toNat, .inl (va_cpy (fun j : Nat => Int32.ofInt (gv w a j)) (fun j : Nat => Int32.ofInt (gv w d j)) sp.toNat dp.toNat n.toNat))) := by
      rw [wsO_set (w := w) (w' := cp w a sp d dp n) g2 hlt2 rfl cellOf_cp, cell_int (show kd (cp w a sp d dp n) d = 20 from hc.2), cpy_of g3 g4 g5]
      rfl
    refine va_copyi B.1 B.2.1 (B.2.2.1.trans hl.1.symm) B.2.2.2.1 (B.2.2.2.2.1 _ w1) (B.2.2.2.2.1 _ w2) (B.2.2.2.2.1 _ w3) (B.2.2.2.2.1 _ w4) B.2.2.2.2.2.2.1.1 hR.2.2.2.2.1 hR.2.2.2.2.2 hS _ _ 0 0 hgA hgD rfl rfl rfl (fun z => by have := (ofI_lt0 hsp1).mp z; omega) (fun z => by have := (ofI_lt0 hdp1).mp z; omega) (fun z => by have := (ofI_lt0 hn1).mp z; omega) (by rw [clamp_of' hsp1 g3, clamp_of' hn1 g5]; omega) (by rw [clamp_of' hdp1 g4, clamp_of' hn1 g5]; omega) (fun _ _ => rfl) hRm.1 hcs hd fun H1 locs1 p1 p2 p3 => ?_
    rw [clamp_of' hsp1 g3, clamp_of' hdp1 g4, clamp_of' hn1 g5, ← hws] at p1 p2
    exact hk _ _ _ _ h Ext.cp adr H1 locs1 lsM ⟨hW', hR.2.1, hR.2.2.1, hR.2.2.2.1, p1, p2⟩ p3 hst' hL' hn hl hg (hx.tr Ext.cp)
  · rw [cell_byte hc.1] at hgA
    rw [cell_byte hc.2] at hgD
    have hws : wsO (lcA K) adr (cp w a sp d dp n) = (wsO (lcA K) adr w).set (d - 32).toNat (adr d, .inl (lcA K 1, (ln w d).toNat, .inl (va_cpy (fun j : Nat => Int32.ofInt (gv w a j)) (fun j : Nat => Int32.ofInt (gv w d j)) sp.toNat dp.toNat n.toNat))) := by
      rw [wsO_set (w := w) (w' := cp w a sp d dp n) g2 hlt2 rfl cellOf_cp, cell_byte (show kd (cp w a sp d dp n) d = 21 from hc.2), cpy_of g3 g4 g5]
      rfl
    refine va_copyi B.1 B.2.1 (B.2.2.1.trans hl.1.symm) B.2.2.2.1 (B.2.2.2.2.1 _ w1) (B.2.2.2.2.1 _ w2) (B.2.2.2.2.1 _ w3) (B.2.2.2.2.1 _ w4) B.2.2.2.2.2.2.1.1 hR.2.2.2.2.1 hR.2.2.2.2.2 hS _ _ 1 1 hgA hgD rfl rfl rfl (fun z => by have := (ofI_lt0 hsp1).mp z; omega) (fun z => by have := (ofI_lt0 hdp1).mp z; omega) (fun z => by have := (ofI_lt0 hn1).mp z; omega) (by rw [clamp_of' hsp1 g3, clamp_of' hn1 g5]; omega) (by rw [clamp_of' hdp1 g4, clamp_of' hn1 g5]; omega) (fun q _ => ?_) hRm.1 hcs hd fun H1 locs1 p1 p2 p3 => ?_
    · have hb := (hok1.resolve_left (by omega)).2.2.2 hc.1 (((Int32.ofInt sp).toNatClampNeg + q : Nat) : Int)
      have hi : in32 (gv w a (((Int32.ofInt sp).toNatClampNeg + q : Nat) : Int)) := by unfold in32; omega
      have e1 : (-128 : Int32) ≤ Int32.ofInt (gv w a (((Int32.ofInt sp).toNatClampNeg + q : Nat) : Int)) := by
        rw [show (-128 : Int32) = Int32.ofInt (-128) from rfl, ofI_le (by unfold in32; omega) hi]; exact hb.1
      have e2 : Int32.ofInt (gv w a (((Int32.ofInt sp).toNatClampNeg + q : Nat) : Int)) ≤ (127 : Int32) := by
        rw [show (127 : Int32) = Int32.ofInt 127 from rfl, ofI_le hi (by unfold in32; omega)]; omega
      show (decide _ && decide _) = true
      exact (Bool.and_eq_true _ _).mpr ⟨decide_eq_true e1, decide_eq_true e2⟩
    · rw [clamp_of' hsp1 g3, clamp_of' hdp1 g4, clamp_of' hn1 g5, ← hws] at p1 p2
      exact hk _ _ _ _ h Ext.cp adr H1 locs1 lsM ⟨hW', hR.2.1, hR.2.2.1, hR.2.2.2.1, p1, p2⟩ p3 hst' hL' hn hl hg (hx.tr Ext.cp)
theorem sm_mmax (B : BX Z K) {i : Nat} (hr : nn = [1] ∧ Cond.methodLink (zo Z) i Lib.Math.max.name ∈ zt Z ∧ Cond.static Lib.Math.max.name ∈ zt Z ∧ Cond.initialized "java/lang/Math" ∈ zt Z ∧ Cond.code Lib.Math.max.name Lib.Math.max.code 2 (some .int) ∈ zt Z) (hd : decode (zC Z) pc = .ok (.invokestatic i, 3)) (hB : ∀ pc ls st w', k pc ls st w' = some o → uc w' - uc w0 ≤ (zR Z).cells ∧ us w' - us w0 ≤ (zR Z).slots) (h : sx C ret (.invokestatic i) tg nn ax sw pc ls st w kr k = some o) (hk : KOK Z K w0 adr0 w k o) : AtM Z K w0 adr0 pc ls st w := by
  obtain ⟨hnn, w1, w2, w3, w4⟩ := hr
  subst hnn
  replace h : pI st _ = some o := h
  obtain ⟨y, r, hs, h'⟩ := pI_s h
  clear h
  subst hs
  have h := h'
  clear h'
  obtain ⟨x, r, hs, h'⟩ := pI_s h
  clear h
  subst hs
  have h := h'
  clear h'
  obtain ⟨h8, h⟩ := c8_s h
  intro adr H locs lsM hR hS ho hL hn hl hg hx
  have hx1 : in32 x := (okS_c.mp (okS_c.mp ho).2).1
  have hy1 : in32 y := (okS_c.mp ho).1
  have hRm := B.2.2.2.2.2.2.2.2
  obtain ⟨b1, b2⟩ := hB _ _ _ _ h
  have hN := hk _ _ _ _ h Ext.rf adr H locs lsM hR hS (okS_c.mpr ⟨(by show in32 _; split <;> assumption), (okS_c.mp (okS_c.mp ho).2).2⟩) hL hn hl hg hx
  refine va_mmax B.1 B.2.1 (B.2.2.1.trans hl.1.symm) B.2.2.2.1 (B.2.2.2.2.1 _ w1) (B.2.2.2.2.1 _ w2) (B.2.2.2.2.1 _ w3) (B.2.2.2.2.1 _ w4) hRm.1 (by rw [catSum_mv]; have := hRm.2; omega) b1 b2 hd ?_
  have e : (if Int32.ofInt x < Int32.ofInt y then Int32.ofInt y else Int32.ofInt x) = Int32.ofInt (if x < y then y else x) := by
    by_cases c : x < y
    · rw [if_pos c, if_pos ((ofI_lt hx1 hy1).mpr c)]
    · rw [if_neg c, if_neg (fun z => c ((ofI_lt hx1 hy1).mp z))]
  rw [e]
  exact hN
theorem sm_mmin (B : BX Z K) {i : Nat} (hr : nn = [2] ∧ Cond.methodLink (zo Z) i Lib.Math.min.name ∈ zt Z ∧ Cond.static Lib.Math.min.name ∈ zt Z ∧ Cond.initialized "java/lang/Math" ∈ zt Z ∧ Cond.code Lib.Math.min.name Lib.Math.min.code 2 (some .int) ∈ zt Z) (hd : decode (zC Z) pc = .ok (.invokestatic i, 3)) (hB : ∀ pc ls st w', k pc ls st w' = some o → uc w' - uc w0 ≤ (zR Z).cells ∧ us w' - us w0 ≤ (zR Z).slots) (h : sx C ret (.invokestatic i) tg nn ax sw pc ls st w kr k = some o) (hk : KOK Z K w0 adr0 w k o) : AtM Z K w0 adr0 pc ls st w := by
  obtain ⟨hnn, w1, w2, w3, w4⟩ := hr
  subst hnn
  replace h : pI st _ = some o := h
  obtain ⟨y, r, hs, h'⟩ := pI_s h
  clear h
  subst hs
  have h := h'
  clear h'
  obtain ⟨x, r, hs, h'⟩ := pI_s h
  clear h
  subst hs
  have h := h'
  clear h'
  obtain ⟨h8, h⟩ := c8_s h
  intro adr H locs lsM hR hS ho hL hn hl hg hx
  have hx1 : in32 x := (okS_c.mp (okS_c.mp ho).2).1
  have hy1 : in32 y := (okS_c.mp ho).1
  have hRm := B.2.2.2.2.2.2.2.2
  obtain ⟨b1, b2⟩ := hB _ _ _ _ h
  have hN := hk _ _ _ _ h Ext.rf adr H locs lsM hR hS (okS_c.mpr ⟨(by show in32 _; split <;> assumption), (okS_c.mp (okS_c.mp ho).2).2⟩) hL hn hl hg hx
  refine va_mmin B.1 B.2.1 (B.2.2.1.trans hl.1.symm) B.2.2.2.1 (B.2.2.2.2.1 _ w1) (B.2.2.2.2.1 _ w2) (B.2.2.2.2.1 _ w3) (B.2.2.2.2.1 _ w4) hRm.1 (by rw [catSum_mv]; have := hRm.2; omega) b1 b2 hd ?_
  have e : (if Int32.ofInt y < Int32.ofInt x then Int32.ofInt y else Int32.ofInt x) = Int32.ofInt (if y < x then y else x) := by
    by_cases c : y < x
    · rw [if_pos c, if_pos ((ofI_lt hy1 hx1).mpr c)]
    · rw [if_neg c, if_neg (fun z => c ((ofI_lt hy1 hx1).mp z))]
  rw [e]
  exact hN
theorem sm_objinit (B : BX Z K) {i : Nat} (hr : nn = [] ∧ Cond.methodLink (zo Z) i Lib.objectInit ∈ zt Z ∧ Cond.instanceMethod Lib.objectInit ∈ zt Z ∧ Cond.code Lib.objectInit ⟨#[0xb1]⟩ 1 none ∈ zt Z) (hax : ∃ c : Int, ax = [c] ∧ c ≠ 0) (hd : decode (zC Z) pc = .ok (.invokespecial i, 3)) (h : sx C ret (.invokespecial i) tg nn ax sw pc ls st w kr k = some o) (hk : KOK Z K w0 adr0 w k o) : AtM Z K w0 adr0 pc ls st w := by
  obtain ⟨hnn, w1, w2, w3⟩ := hr
  obtain ⟨c, hax, hc0⟩ := hax
  subst hnn
  subst hax
  replace h : pR st _ = some o := h
  obtain ⟨a, r, hs, h'⟩ := pR_s h
  clear h
  subst hs
  have h := h'
  clear h'
  obtain ⟨hc, h⟩ := if_s h
  obtain ⟨h8, h⟩ := c8_s h
  intro adr H locs lsM hR hS ho hL hn hl hg hx
  have hRm := B.2.2.2.2.2.2.2.2
  have ha := (hR.1.pos a (by omega)).1
  have hN := hk _ _ _ _ h Ext.rf adr H locs lsM hR hS (okS_c.mp ho).2 hL hn hl hg hx
  simp only [List.map_cons, mv_ref (show a ≠ 0 by omega)]
  exact W.objInit B.1 B.2.1 B.2.2.2.1 (B.2.2.2.2.1 _ w1) (B.2.2.2.2.1 _ w2) (B.2.2.2.2.1 _ w3) (g := F0 (zm Z) pc lsM (.ref (adr a) :: List.map (mvV adr) r)) rfl (by show lsM.size = _; rw [hl.1, B.2.2.1]) rfl hd hRm.1 (by show 2 * 0 + _ + 12 ≤ _; rw [catSum_mv]; have := hRm.2; omega) hN
end SI
