/-! ===== a method of the class that throws: its contract ===== -/
theorem thA_in : ∀ w ∈ (thA "BitRopes" 148).filter vx_no, (w ∈ lw_tbl ∧ goodWord w = true) ∨ w ∈ thrW := by
  have h : ((thA "BitRopes" 148).filter vx_no).all (fun w => (decide (w ∈ (lw_tbl.drop 1020).take 80 ++ lw_tbl.take 300) && goodWord w) || decide (w ∈ thrW)) = true := by decide +kernel
  intro w hw
  have := List.all_eq_true.mp h w hw
  simp only [Bool.or_eq_true, Bool.and_eq_true, decide_eq_true_eq] at this
  rcases this with ⟨h1, h2⟩ | h1
  · refine Or.inl ⟨?_, h2⟩
    rcases List.mem_append.mp h1 with h1 | h1
    · exact List.mem_of_mem_drop (List.mem_of_mem_take h1)
    · exact List.mem_of_mem_take h1
  · exact Or.inr h1
theorem thA_ot : ∀ w ∈ Cond.classLink "BitRopes" 144 NSx :: Cond.initialized NSx :: (thA "BitRopes" 148).filter vx_no, vx_ot w = true := by
  have h : (Cond.classLink "BitRopes" 144 NSx :: Cond.initialized NSx :: (thA "BitRopes" 148).filter vx_no).all vx_ot = true := by decide +kernel
  exact fun w hw => List.all_eq_true.mp h w hw
theorem thr_l1 : Cond.classLink "BitRopes" 144 NSx ∈ tG := wG_s (h := 1027) (by decide +kernel)
theorem thr_l2 : Cond.initialized NSx ∈ tG := wG_s (h := 110) (by decide +kernel)
/-- what a callee that throws leaves -/
def XCM (K : LC) (w : sW) (adr : Int → Nat) (w' : sW) : String → State → State → Prop := fun E st t => E = NSx ∧ (∃ adr' : Int → Nat, RW K w' adr' t.heap ∧ ∀ q, q < nx w → adr' q = adr q) ∧ va_F (oldA K) st t
abbrev nvr : Array Value → State → Outcome → State → Prop := fun _ _ _ _ => False
section TH3
variable {Z : MZ} {K : LC} {w0 w : sW} {adr0 : Int → Nat} {C : sC} {d : Nat} {o : sO} {inf : Nat → Option sI} {mi : sI} {rF : Option sV × sW}
theorem thr_new {pc : Nat} {ls : sL} {q : Nat × String} (B : BX Z K) (hx : KX K (zs Z)) (hl : (zl Z).stackTraces = false) (hlocks : (zh Z).locks = false) (hout : ∀ x ∈ (zc Z).exceptionTable.toList, False) (hown : zo Z = "BitRopes") (hq : q ∈ strW)
    (d0 : decode (zC Z) pc = .ok (.new 144, 3)) (d3 : decode (zC Z) (pc + 3) = .ok (.dup, 1)) (d4 : decode (zC Z) (pc + 4) = .ok (.ldc q.1, 2)) (d6 : decode (zC Z) (pc + 6) = .ok (.invokespecial 148, 3)) (d9 : decode (zC Z) (pc + 9) = .ok (.athrow, 1))
    (hrm : 5 < (zR Z).frames ∧ 82 ≤ (zR Z).locals) (hrF : rF.2 = bp w 1 6) (hcap : uc rF.2 - uc w0 ≤ (zR Z).cells ∧ us rF.2 - us w0 ≤ (zR Z).slots)
    (hQ : zQ Z = vx_MQ (zb Z) nvr (XCM K w0 adr0 rF.2) (za Z) (zs Z) (uc rF.2 - uc w0) (us rF.2 - us w0) (oldA K)) : AtM Z K w0 adr0 pc ls [] w := by
  intro adr H locs lsM hR hS hok hL hn hl2 hg hx'
  obtain ⟨k1, k2, k3, k4⟩ := hx
  obtain ⟨sa, hsa⟩ := k3 q hq
  have e1 : uc w0 ≤ uc w := hx'.2.2.1
  have e2 : us w0 ≤ us w := hx'.2.2.2
  have u1 : uc rF.2 = uc w + 1 := by rw [hrF]; rfl
  have u2 : us rF.2 = us w + 6 := by rw [hrF]; rfl
  have hat : ∀ v ∈ (thA "BitRopes" 148).filter vx_no, v.before (za Z) (zs Z) = true := by
    intro v hv
    rcases thA_in v hv with ⟨h1, h2⟩ | h1
    · exact B.2.2.2.2.1 _ (B.2.2.2.2.2.1 _ (List.mem_filter.mpr ⟨h1, h2⟩))
    · exact va_tabs (by have := thA_ot v (List.mem_cons_of_mem _ (List.mem_cons_of_mem _ hv)); simp only [thrW, List.mem_cons, List.not_mem_nil, or_false] at h1; rcases h1 with rfl | rfl | rfl | rfl <;> rfl) rfl (k4 v h1)
  show W _ _ _ _ _ _ _ _ _ _ _ _ _ _ (zQ Z) _
  rw [hQ]
  refine th_make B.1 B.2.1 hl (own := "BitRopes") (text := q.2) (ik := 144) (is := q.1) (ic := 148) (sa := sa) (A := oldA K) (by rw [← hown]; exact B.2.2.2.1) (B.2.2.2.2.1 _ (B.2.2.2.2.2.1 _ thr_l1)) (B.2.2.2.2.1 _ (B.2.2.2.2.2.1 _ thr_l2)) hsa hat thA_ot
    (k1.kept (fun a ha _ => B.2.2.2.2.2.2.2.1.2 a ha)) (k2.kept (fun a ha _ => B.2.2.2.2.2.2.2.1.2 a ha)) hS (hl2.1.trans B.2.2.1.symm) d0 d3 d4 d6 (by omega) (by simp only [List.map_nil, List.sum_nil]; omega) (by omega) (by omega) ?_
  intro qa ce H1 g1 g2 g3 g4 g5 g6
  refine th_athrow B.1 B.2.1 d9 ?_
  refine vx_out (fun x hx => (hout x hx).elim) hlocks g3 g4 g5 (fun t ht _ => ⟨rfl, ⟨adr, ?_, hg⟩, g6.F ht⟩) g6.2.2 (by omega) (by omega)
  rw [hrF, ht]
  obtain ⟨r1, r2, r3, r4, r5, r6⟩ := hR
  exact ⟨r1, r2, r3, r4, r5.kept (fun k x hx => g2 x.1 ((r5 k x hx).lt)), r6⟩
/-- what is checked of a table's throws -/
def thrE (cc : ByteArray) (e : sE) : Bool := match e.2.1, e.2.2.2.2.2.1 with
  | .new i, [] => Nat.beq i 144 && Nat.beq e.2.2.2.1 6 && decide (e.2.2.1 = 3) && decide (decode cc (e.1 + 3) = .ok (.dup, 1)) && strW.any (fun q => decide (decode cc (e.1 + 4) = .ok (.ldc q.1, 2))) && decide (decode cc (e.1 + 6) = .ok (.invokespecial 148, 3)) && decide (decode cc (e.1 + 9) = .ok (.athrow, 1))
  | _, _ => true
theorem thr_ok (B : BX Z K) (hx : KX K (zs Z)) (hl : (zl Z).stackTraces = false) (hlocks : (zh Z).locks = false) (hout : ∀ x ∈ (zc Z).exceptionTable.toList, False) (hown : zo Z = "BitRopes") (hT : mi.2.2.2.2.1.2.2.1.all (thrE (zC Z)) = true) (hret : mi.2.2.2.2.1.2.1 = 1)
    (hrm : 5 < (zR Z).frames ∧ 82 ≤ (zR Z).locals) (ht : rF.1 = thrown) (hcap : uc rF.2 - uc w0 ≤ (zR Z).cells ∧ us rF.2 - us w0 ≤ (zR Z).slots)
    (hQ : zQ Z = vx_MQ (zb Z) nvr (XCM K w0 adr0 rF.2) (za Z) (zs Z) (uc rF.2 - uc w0) (us rF.2 - us w0) (oldA K)) :
    ∀ (o : sO), (∀ r, o = .inr r → r = rF) → ∀ (e : sE) (pc : Nat) (ls : sL) (st : List sV) (w : sW) (k : Nat → sL → List sV → sW → Option sO), e ∈ mi.2.2.2.2.1.2.2.1 → e.1 = pc → isRet e.2.1 e.2.2.2.2.2.1 = true → decode (zC Z) pc = .ok (e.2.1, e.2.2.1) → vR mi.2.2.2.2.1.2.1 e.2.1 = true → sx C mi.2.2.2.2.1.2.1 e.2.1 e.2.2.2.1 e.2.2.2.2.1 e.2.2.2.2.2.1 e.2.2.2.2.2.2 pc ls st w (fun v w => some (.inr (v, w))) k = some o → AtM Z K w0 adr0 pc ls st w := by
  intro o hoF e pc ls st w k hmem hpc hret' hd hvr h
  have hE := List.all_eq_true.mp hT e hmem
  rw [hret] at h hvr
  obtain ⟨epc, ei, el, et, en, ea, es⟩ := e
  dsimp only at h hret' hd hvr hpc
  subst hpc
  cases ei with
  | ireturn =>
    exfalso
    obtain ⟨x, r, hs, h'⟩ := pI_s h
    clear h
    subst hs
    obtain ⟨hs, h⟩ := p0_s h'
    have := hoF _ (Option.some.inj h).symm
    rw [← this] at ht
    cases ht
  | new i =>
    have : ea = [] := by simpa [isRet] using hret'
    subst this
    obtain ⟨hst, h⟩ := p0_s h
    subst hst
    simp only [thrE, Bool.and_eq_true, decide_eq_true_eq] at hE
    obtain ⟨⟨⟨⟨⟨⟨z1, z2⟩, z3⟩, z4⟩, z5⟩, z6⟩, z7⟩ := hE
    have z1 := Nat.eq_of_beq_eq_true z1
    have z2 := Nat.eq_of_beq_eq_true z2
    subst z1; subst z2; subst z3
    obtain ⟨q, hq, z5⟩ := List.any_eq_true.mp z5
    have z5 := of_decide_eq_true z5
    have := hoF _ (Option.some.inj h).symm
    exact thr_new B hx hl hlocks hout hown hq hd z4 z5 z6 z7 hrm (by rw [← this]) hcap hQ
  | lreturn => cases hvr
  | areturn => cases hvr
  | return_ => cases hvr
  | _ => cases hret'
end TH3
set_option maxHeartbeats 1000000 in
theorem thr_sim {l : Launch} {K : LC} {inf : Nat → Option sI} {mi : sI} {C : sC} {d : Nat} {w : sW} {as : List sV} {rF : Option sV × sW} (hKX : ∀ U, KN K U → KX K U) (hl0 : l.stackTraces = false) (hLL : lcL K ≤ 100000) (hm : MOK mi) (hh0 : mi.2.2.2.2.2 = []) (hcl : mi.1.cls = "BitRopes") (hVal : VAL inf mi) (hCe : ExtC C) (hC : SimC l K inf d C) (hmok : ∀ mid mi, inf mid = some mi → MOK mi)
    (hT : mi.2.2.2.2.1.2.2.1.all (thrE mi.2.1) = true) (hret : mi.2.2.2.2.1.2.1 = 1) (hd5 : 5 ≤ d) (h : runs C mi.2.2.2.2.1 w as = some rF) (ht : rF.1 = thrown) (adr : Int → Nat) :
    vx_Met l mi.1 (wsM mi) (rmD (d + 1) (uc rF.2 - uc w) (us rF.2 - us w)) (PcM K w adr as) nvr (XCM K w adr rF.2) (uc rF.2 - uc w) (us rF.2 - us w) (oldA K) := by
  obtain ⟨hlen, n, hn⟩ := runs_iff.mp h
  have hM1 := hVal.2.2.2
  rw [hM1] at hlen hn
  refine vx_ofW (cc := mi.2.1) (maxL := mi.2.2.1) (ret := mi.2.2.2.1) hm.2.2.2.2 (wsM_0 hh0) ?_
  intro p e s m args below meth c s₁ Bd hml htab hv
  obtain ⟨rfl, hKN, hOld, hRW, hok⟩ := hv
  obtain ⟨Z, hZ⟩ : ∃ Z : MZ, Z = (p, l, e, rmD (d + 1) (uc rF.2 - uc w) (us rF.2 - us w), s, m, (as.map (mvV adr)).toArray, below, meth, c, vx_MQ below nvr (XCM K w adr rF.2) (as.map (mvV adr)).toArray s (uc rF.2 - uc w) (us rF.2 - us w) (oldA K), mi.2.1, mi.2.2.1, mi.1.cls, wsM mi) := ⟨_, rfl⟩
  have B : BX Z K := by
    rw [hZ]
    exact ⟨Bd.exec, Bd.bytes, hml, findClass_of_methodNamed Bd.named, atoms_spec (ws := wsM mi) Bd.pre, fun w hw => List.mem_cons_of_mem _ hw, hKN, hOld, by show 1 ≤ d + 1; omega, by show 60 ≤ 60 * (d + 1); omega⟩
  have hrm : RoomD Z d := by rw [hZ]; exact ⟨Nat.le_refl _, Nat.le_refl _⟩
  have hl := lv_entry (as.map (mvV adr)) (n := mi.2.2.1) (by rw [slot2_len]; exact hlen)
  rw [lg_entry_eq]
  generalize (lg_sl (as.map (mvV adr)) ++ List.replicate (mi.2.2.1 - (lg_sl (as.map (mvV adr))).length) Slot.unset).toArray = lsM at hl ⊢
  rw [← lvs_ent adr (mi.2.2.1 - (slot2 as).length)] at hl
  have key := itr_sim (Z := Z) (K := K) (w0 := w) (adr0 := adr) (C := C) (d := d) (inf := inf) (mi := mi) (rF := rF) B (by rw [hZ]; exact (name_of_methodNamed Bd.named Bd.method).1) (by rw [hZ]) (by rw [hZ]) (by rw [hZ]) hLL hVal hCe (by rw [hZ]; exact hC) hrm hmok (by rw [hZ]; exact ⟨Nat.le_refl _, Nat.le_refl _⟩)
    (thr_ok B (by rw [hZ]; exact hKX _ hKN) (by rw [hZ]; exact hl0) (by rw [hZ]; exact Bd.notSynchronized) (by rw [hZ]; exact htab) (by rw [hZ]; exact hcl) (by rw [hZ]; exact hT) hret (by rw [hZ]; exact ⟨by show 5 < d + 1; omega, by show 82 ≤ 60 * (d + 1); omega⟩) ht (by rw [hZ]; exact ⟨Nat.le_refl _, Nat.le_refl _⟩) (by rw [hZ])) n _ hn
  have := key adr s.heap [] lsM hRW (by rw [hZ]; exact va_S.rf) (fun v hv => by cases hv) (okL_ent hok) (by rw [hZ]; exact ent_len hlen) (by rw [hZ]; exact hl) (fun r _ => rfl) Ext.rf
  rw [hZ, Nat.sub_self, Nat.sub_self] at this
  exact this
