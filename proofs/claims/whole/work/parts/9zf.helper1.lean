/-! ===== the law's helpers: a call whose throw is caught ===== -/
theorem met_ofWH {l : Launch} {y : MethodName} {ws ws' : List Cond} {rm : Room} {Pc : Array Value → State → Prop} {Qc : Array Value → State → Outcome → State → Prop} {mc ms : Nat} {free : Addr → Prop} {cc : ByteArray} {maxL : Nat} {ret : Option FieldType} {hh : List (Nat × Nat × Nat × Nat)}
    (hy : plainName y.cls = true) (hw : ws = Cond.codeWith y cc maxL ret hh :: ws')
    (body : ∀ p e s m args below meth c s₁, BodyLoose p l y (headSpec ws rm) cc maxL ret e s m args below meth c s₁ → c.maxLocals = maxL → Pc args s →
      W p l e (headSpec ws rm).room s m args below meth c s.heap [] 0 0 (MQ below Qc args s mc ms free) (entryFrame m args maxL)) : Met l y ws rm Pc Qc mc ms free := by
  refine MetFree.of_bodyS (code := cc) (maxLocals := maxL) (ret := ret) hy ?_ ?_
  · intro args s m h hn
    obtain ⟨m9, meth, c, hn9, h1, h2, h3, h4, -, h5, h6, -⟩ := Cond.codeWith_spec (atoms_spec (ws := ws) h _ (by rw [hw]; exact List.mem_cons_self))
    cases hn.symm.trans hn9
    exact ⟨meth, c, h1, h2, h3, h4, h5, h6⟩
  · intro p e s m args below meth c s₁ B hml hP _
    have hh0 : s₁.heap = s.heap := by rw [B.state]; rfl
    obtain ⟨t, a1, o, b1, b2, b3⟩ := body p e s m args below meth c s₁ B hml hP s₁ hh0 (Stand.of_body B)
    exact ⟨t, o, a1, b1, b2, b3⟩
theorem nat_tr {a b c : Nat} (h1 : a ≤ b) (h2 : b ≤ c) : b - a + (c - b) = c - a := by omega
def kst : Nat → sL → List sV → sW → Option sO := fun pc ls st w => some (.inl (pc, ls, st, w))
abbrev krN : Option sV → sW → Option sO := fun _ _ => none
section HP
variable {Z : MZ} {K : LC} {w0 w : sW} {adr0 : Int → Nat} {C : sC} {d : Nat} {inf : Nat → Option sI} {mi : sI}
theorem kok {pc : Nat} {ls : sL} {st : List sV} {w1 : sW} (h : AtM Z K w0 adr0 pc ls st w1) : KOK Z K w0 adr0 w kst (.inl (pc, ls, st, w1)) := fun pc' ls' st' w' e _ => by cases e; exact h
theorem at_iret (B : BX Z K) {pc : Nat} {ls : sL} {x : Int} (hlocks : (zh Z).locks = false) (hrt : (zh Z).sig.returnType = some .int) (hQ : zQ Z = MQ (zb Z) (QcM K w0 adr0 (some (.inl x)) w) (za Z) (zs Z) (uc w - uc w0) (us w - us w0) (oldA K)) (hd : decode (zC Z) pc = .ok (.ireturn, 1)) : AtM Z K w0 adr0 pc ls [.inl x] w := by
  intro adr H locs lsM hR hS hok hL hn hl hg hx
  have hx1 : in32 x := (okS_c.mp hok).1
  show W _ _ _ _ _ _ _ _ _ _ _ _ _ _ (zQ Z) _
  rw [hQ]
  exact W.iret B.1 B.2.1 hrt (fun t ht _ => ⟨⟨adr, rfl, by rw [ht]; exact hR, hg, fun v e => by cases e; exact hx1⟩, hS.F ht⟩) hS.2.2 hd hlocks
theorem hp_ok (B : BX Z K) {pc tg : Nat} {off out v : Int} {ls : sL} (hlocks : (zh Z).locks = false) (hrt : (zh Z).sig.returnType = some .int) (d1 : decode (zC Z) pc = .ok (.i2l, 1)) (d2 : decode (zC Z) (pc + 1) = .ok (.lastore, 1)) (d3 : decode (zC Z) (pc + 2) = .ok (.goto off, 3)) (ht : ((pc + 2 : Nat) : Int) + off = (tg : Int)) (d4 : decode (zC Z) tg = .ok (.iconst 0, 1)) (d5 : decode (zC Z) (tg + 1) = .ok (.ireturn, 1))
    (hk : kd w out = 22 ∧ 0 < ln w out) (hQ : zQ Z = MQ (zb Z) (QcM K w0 adr0 (some (.inl 0)) (sv w out 0 v)) (za Z) (zs Z) (uc (sv w out 0 v) - uc w0) (us (sv w out 0 v) - us w0) (oldA K)) : AtM Z K w0 adr0 pc ls [.inl v, .inl 0, .inr (.inr out)] w := by
  refine sm_i2l B d1 (C := fun _ _ _ => none) (ret := 1) (tg := 0) (nn := []) (ax := []) (sw := []) (kr := krN) (k := kst) rfl (kok ?_)
  refine sm_lastore B d2 (C := fun _ _ _ => none) (ret := 1) (tg := 0) (nn := []) (ax := []) (sw := []) (kr := krN) (k := kst) (o := .inl (pc + 2, ls, [], sv w out 0 v)) (show (if kd w out = 22 ∧ (0 : Int) ≤ 0 ∧ 0 < ln w out then kst (pc + 2) ls [] (sv w out 0 v) else none) = _ from by rw [if_pos ⟨hk.1, Int.le_refl _, hk.2⟩]; rfl) (kok ?_)
  refine sm_goto B ht d3 (C := fun _ _ _ => none) (ret := 1) (nn := []) (ax := []) (sw := []) (kr := krN) (k := kst) rfl (kok ?_)
  refine sm_iconst B (by unfold in32; omega) d4 (C := fun _ _ _ => none) (ret := 1) (tg := 0) (nn := []) (ax := []) (sw := []) (kr := krN) (k := kst) rfl (kok ?_)
  exact at_iret B hlocks hrt hQ d5
theorem hp_thr (B : BX Z K) {i pc la ia : Nat} {a : Int} {as rest : List sV} {w' : sW} {ls : sL} {xe : ExceptionTableEntry} (hh0 : mi.2.2.2.2.2 = []) (hm : MOK mi) (hcl : mi.1.cls = (clN 8).1) (hpn : parN mi = some as.length) (hlk : Cond.methodLink (zo Z) i mi.1 ∈ tG) (him : Cond.instanceMethod mi.1 ∈ tG) (hsl : Cond.selects mi.1.cls mi.1 mi.1 ∈ tG)
    (hd : decode (zC Z) pc = .ok (.invokevirtual i, 3)) (hkd : kd w a = 9) (hrm : RoomD Z d) (hcat : catSum rest ≤ 8)
    (hM : ∀ adr, vx_Met (zl Z) mi.1 (wsM mi) (rmD d (uc w' - uc w) (us w' - us w)) (PcM K w adr (.inr (.inr a) :: as)) nvr (XCM K w adr w') (uc w' - uc w) (us w' - us w) (oldA K))
    (hcap : uc w' - uc w0 ≤ (zR Z).cells ∧ us w' - us w0 ≤ (zR Z).slots) (hx1 : Ext w w') (htab : (zc Z).exceptionTable.toList = [xe]) (hcov : covers xe pc = true) (h0 : xe.catchType ≠ 0) (hlink : Cond.classLink (zo Z) xe.catchType NSx ∈ tG) (hx : KX K (zs Z))
    (hlocks : (zh Z).locks = false) (hrt : (zh Z).sig.returnType = some .int) (hia : ia < zn Z) (hst : (decode (zC Z) xe.handlerPc = .ok (.astore ia, 2) ∧ la = 2) ∨ (∃ k : Fin 4, (k : Nat) = ia ∧ decode (zC Z) xe.handlerPc = .ok (.astore_n k, 1) ∧ la = 1)) (dc : decode (zC Z) (xe.handlerPc + la) = .ok (.iconst 1, 1)) (dr : decode (zC Z) (xe.handlerPc + la + 1) = .ok (.ireturn, 1))
    (hQ : zQ Z = MQ (zb Z) (QcM K w0 adr0 (some (.inl 1)) w') (za Z) (zs Z) (uc w' - uc w0) (us w' - us w0) (oldA K)) : AtM Z K w0 adr0 pc ls (as.reverse ++ .inr (.inr a) :: rest) w := by
  intro adr H locs lsM hR hS ho hL hn hl hg hx0
  have ho2 := (okS_ap.mp ho).2
  have hoA : okS w (.inr (.inr a) :: as) := okS_c.mpr ⟨(okS_c.mp ho2).1, okS_rev.mp (okS_ap.mp ho).1⟩
  have h32 : 32 ≤ a := kd_big hR.1 (by omega)
  obtain ⟨hlt, -⟩ := hR.live h32 (by omega)
  have hget := wsO_get (cA := lcA K) (adr := adr) h32 hlt
  rw [cell_obj (n := 8) hkd (by omega)] at hget
  have hrv := va_recv B.2.2.2.2.2.2.1.1 hR.2.2.2.2.1 (cl_at (show 8 < 10 by omega)) hget
  have hu1 := hx0.2.2.1
  have hu2 := hx1.2.2.1
  have hv1 := hx0.2.2.2
  have hv2 := hx1.2.2.2
  have e0 : mvV adr (.inr (.inr a)) = .ref (adr a) := mv_ref (by omega)
  have hpc := pcM_of B hS hR hoA
  rw [List.map_cons, e0] at hpc
  have hrun := vx_runV (e := ze Z) (below := zb Z) (meth := zh Z) (C := (clN 8).1) (b := adr a) (As := as.map (mvV adr)) (rest := rest.map (mvV adr)) (g := F0 (zm Z) pc lsM ((as.reverse ++ .inr (.inr a) :: rest).map (mvV adr))) (locs := locs) (cells := uc w - uc w0) (slots := us w - us w0) (index := i) ⟨B.1, B.2.1, B.2.2.1, B.2.2.2.1, B.2.2.2.2.1⟩ (hM adr) (cwV as.length B.2.2.2.2.1 (good_zt B (fun v hv => by
      simp only [wsV, List.cons_append, List.nil_append, List.mem_cons] at hv
      rcases hv with rfl | rfl | rfl | rfl | hv
      · exact hlk
      · exact him
      · rw [← hcl]; exact hsl
      · rw [← hcl]; exact hm.2.1
      · exact wsM_tG hm v hv)) (wsM_0 hh0) rfl rfl ⟨hcl, hm.2.2.1.1, hm.2.2.1.2, hpn⟩ (room_ok hrm hm)) ⟨PcM.blind, hrv, hpc⟩ rfl (by simp) hl.1 (by simp only [List.map_append, List.map_reverse, List.map_cons, e0]) (by rw [mr0, catSum_mv]; omega) hd ⟨by omega, by omega⟩
  intro T hT X
  rcases hrun T hT X with ⟨v, st₀, t, T', L, h0', X', hLL, e1, e2, hq, st⟩ | ⟨q, st₀, t, T', L, E, ce, h0', X', hLL, e1, e2, ⟨hE, ⟨adr', hRW', hag⟩, hz, hk⟩, hce, hcv, hclq, st⟩
  · exact hq.elim
  subst hE
  rw [h0'] at hz hk
  have hcells : uc w - uc w0 + (uc w' - uc w) = uc w' - uc w0 := nat_tr hu1 hu2
  have hslots : us w - us w0 + (us w' - us w) = us w' - us w0 := nat_tr hv1 hv2
  rw [hcells, hslots] at X'
  have hS' : va_S (oldA K) (zs Z).heap T'.heap (locs ++ L) := ⟨Nat.le_trans hS.1 (by rw [e1]; exact hz), fun q h1 h2 => by rw [e1, hk q (Nat.lt_of_lt_of_le h1 hS.1) h2]; exact hS.2.1 q h1 h2, fun q hq => by
      rcases List.mem_append.mp hq with h | h
      · exact hS.2.2 q h
      · exact hLL q h⟩
  have hend : ∀ ls' : Array Slot, W (zp Z) (zl Z) (ze Z) (zR Z) (zs Z) (zm Z) (za Z) (zb Z) (zh Z) (zc Z) T'.heap (locs ++ L) (uc w' - uc w0) (us w' - us w0) (zQ Z) (F0 (zm Z) (xe.handlerPc + la) ls' []) := by
    intro ls'
    refine lv_iconst B.1 B.2.1 dc (v := 1) rfl ?_
    rw [hQ]
    exact W.iret B.1 B.2.1 hrt (fun t' ht _ => ⟨⟨adr', rfl, by rw [ht, e1]; exact hRW', fun r hr => by rw [hag r (Int.lt_of_lt_of_le hr hx0.2.1)]; exact hg r hr, fun v e => by cases e; unfold okV in32; omega⟩, hS'.F ht⟩) hS'.2.2 dr hlocks
  have hfin : W (zp Z) (zl Z) (ze Z) (zR Z) (zs Z) (zm Z) (za Z) (zb Z) (zh Z) (zc Z) T'.heap (locs ++ L) (uc w' - uc w0) (us w' - us w0) (zQ Z) (F0 (zm Z) xe.handlerPc lsM [.ref q]) := by
    rcases hst with ⟨da, hla⟩ | ⟨k, hk1, da, hla⟩
    · subst hla
      exact lv_astore B.1 B.2.1 da hl hia rfl (fun ls' _ => hend ls')
    · subst hla
      exact lv_astore_n B.1 B.2.1 da hk1 hl hia rfl (fun ls' _ => hend ls')
  have hcast : (Cond.castable NSx NSx).before (za Z) (zs Z) = true := va_tabs rfl rfl (hx.2.2.2 _ List.mem_cons_self)
  obtain ⟨t2, a1, b1⟩ := vx_catch (own := zo Z) (name := NSx) (E := NSx) (ce := ce) (q := q) (rest := rest.map (mvV adr)) (pc := pc) B.2.2.2.1 [] xe [] htab (fun z hz => nomatch hz) hcov h0 (B.2.2.2.2.1 _ (B.2.2.2.2.2.1 _ hlink)) hcast (by rw [e1]; exact hce) hcv hclq hfin T' rfl X'
  exact ⟨t2, st.trans a1, b1⟩
end HP
