/-! THE CLAIM OUT OF ONE WALK OF THE LAW'S BODY. Your part is whole_start (and what it stands on); all else here is the same for every law, but numbers. -/
def R_law : String := "BitRopesLaw"
def lw_P (b : Addr) (xs : List Int32) (args : Array Value) (s : State) : Prop := args = #[.ref b] ∧ s.IntsAt b xs ∧ xs.length ≤ 3072 ∧ (Jvm.Cond.and given_1 narrow_1).before args s = true
def lw_Q (_ : Array Value) (s : State) (o : Outcome) (t : State) : Prop := o = .returned (some (.int 1)) ∧ Framed s o t [] 601024 7293034
def lw_Z (below : List Frame) (a : Array Value) (s : State) : State → Prop := fun t => ∃ o, t.status = .running ∧ Ended t below o ∧ lw_Q a s o t
/-- the law's own end, with 1 on the stack, nothing written that was there before, its room as the claim has it -/
theorem lw_ret {p : Program} {l : Launch} {e : Env} {s : State} {m : MethodId} {below : List Frame} {meth : Method} {c : Code} {b : Nat} (hx : p.tables.exec = Jvm.exec) (hb : c.code = code) (hr : meth.sig.returnType = ret) (hlocks : meth.locks = false) {pc : Nat} {H : Heap} {ls : Array Slot} (hdg : decode code pc = .ok (.ireturn, 1)) : W p l e room_1 s m #[Value.ref b] below meth c H [] 601024 7293034 (lw_Z below #[Value.ref b] s) (F0 m pc ls [.int 1]) := by
  intro T hT X
  obtain ⟨fs, hret, hrun, hended, hW, hframe⟩ := X.leave (v := some (.int 1)) (hlocks := hlocks) (fun h => by rw [hr] at h; cases h)
  have hmeth' : T.vm.method? m = some meth := X.method'
  refine ⟨T.setFrames fs, ?_, .returned (some (.int 1)), hrun, hended, rfl, ⟨_, rfl⟩, hW, hframe⟩
  jvm_step X.here [X.here.top, hx, hb, hdg, hmeth', hr, ret, narrow_b1]
  (try refine ⟨rfl, ?_⟩); (try refine ⟨rfl, ?_⟩)
  first | (intro acts; rw [hret _ acts rfl rfl rfl]) | rw [hret _ _ rfl rfl rfl]
  exact Steps.refl _
/-- what holds at the law's entry: the machine, the code, the tables' words (any of lw_tbl by 'hts w (by decide +kernel)'), the script of L ints xs at the cell b, what the Statement gives of the start (any of its parts by flat_of_before) -/
def lw_At (p : Program) (s : State) (m : MethodId) (meth : Method) (c : Code) (b L : Nat) (xs : Nat → Int32) : Prop :=
  p.tables.exec = Jvm.exec ∧ c.code = code ∧ meth.sig.returnType = ret ∧ c.maxLocals = 7 ∧ s.vm.findClass R_law = some m.cls ∧ (∀ w ∈ lw_tbl, w.before #[Value.ref b] s = true) ∧ va_X b L xs s s.heap ∧ b < s.heap.size ∧ meth.locks = false ∧ (Jvm.Cond.and given_1 narrow_1).before #[Value.ref b] s = true
/-! ===== from a run of the small machine to the law's walk ===== -/
def w00 (L : Nat) (xs : Nat → Int32) : sW :=
  ((fun r => if 1 ≤ r ∧ r ≤ 23 then (30, 0) else if r = 24 then (27, 23) else if r = 25 then (20, (L : Int)) else (0, 0)),
   (fun r j => if 1 ≤ r ∧ r ≤ 23 then (if j = 0 then (wWd.getD (r - 1).toNat (0, 0, 0)).1 else if j = 1 then (wWd.getD (r - 1).toNat (0, 0, 0)).2.1 else if j = 2 then (wWd.getD (r - 1).toNat (0, 0, 0)).2.2 else 0) else if r = 24 then j + 1 else if r = 25 then (xs j.toNat).toInt else 0),
   32, 0, 0)
theorem w00_wf (L : Nat) (xs : Nat → Int32) : WFw L xs (w00 L xs) := by
  refine ⟨Int.le_refl _, fun k hk => ?_, ⟨rfl, fun j hj => rfl⟩, ⟨rfl, fun j hj => rfl⟩, fun r hr => ?_, fun r h1 h2 => ?_⟩
  · have e : 1 ≤ (k : Int) + 1 ∧ (k : Int) + 1 ≤ 23 := by omega
    have e2 : ((k : Int) + 1 - 1).toNat = k := by omega
    refine ⟨?_, ?_, ?_, ?_⟩
    · show (if _ then _ else _) = _
      rw [if_pos e]
    · show (if _ then _ else _) = _
      rw [if_pos e, if_pos rfl, e2]
    · show (if _ then _ else _) = _
      rw [if_pos e, if_neg (by decide), if_pos rfl, e2]
    · show (if _ then _ else _) = _
      rw [if_pos e, if_neg (by decide), if_neg (by decide), if_pos rfl, e2]
  · have hnx : nx (w00 L xs) = 32 := rfl
    rw [hnx] at hr
    show (if _ then _ else _ : Int × Int).1 = 0
    rw [if_neg (by omega), if_neg (by omega), if_neg (by omega)]
  · have hnx : nx (w00 L xs) = 32 := rfl
    omega
theorem vB_nm {inf : Nat → Option sI} {own nm nm' : String} {e : Instr} {pc len tg : Nat} {nn : List Nat} {ax : List Int} {sw : List (Int × Nat)} {hh : List Nat} (h : ∀ i, e ≠ .putfield i) : vB inf own nm e pc len tg nn ax sw hh = vB inf own nm' e pc len tg nn ax sw hh := by
  cases e with
  | putfield i => exact absurd rfl (h i)
  | _ => rfl
theorem lawVal (nm : String) : VAL infA (lawI nm) := by
  refine ⟨fun e he => ?_, lawCuts.1, Or.inr (Or.inr (Or.inr (Or.inr ⟨lawCuts.2.2, rfl⟩))), lawCuts.2.1⟩
  obtain ⟨⟨hh, hv⟩, h2, h3⟩ := lawChk e he
  have hnp : noPut e.2.1 = true := List.all_eq_true.mp kL_put e he
  refine ⟨⟨hh, ?_⟩, h2, by show vR mL_law.2.1 e.2.1 = true; rw [lawCuts.2.2]; exact h3⟩
  rw [← hv]
  exact vB_nm (fun i hi => by rw [hi] at hnp; cases hnp)
theorem infA_ok {mid : Nat} {mi : sI} (h : infA mid = some mi) : MOK mi := (infL_ok mi (List.mem_of_getElem? h)).1
theorem pro_ok {mid : Nat} {M : sM} (h : pro mid = some (.inl M)) {mi : sI} (hi : infA mid = some mi) : mi.2.2.2.2.1 = M ∧ mi.2.2.2.2.2 = [] ∧ VAL infA mi := by
  have hm := List.mem_of_getElem? (show (infL.zip proL)[mid]? = some (mi, .inl M) by
    rw [List.getElem?_zip_eq_some]
    exact ⟨hi, h⟩)
  have hz := zip_ok (mi, .inl M) hm M rfl
  have := infL_ok mi (List.mem_of_getElem? hi)
  exact ⟨hz.1, hz.2, this.2 hz.2⟩
set_option maxHeartbeats 1000000 in
theorem law_start {p : Program} {e : Env} {s : State} {m : MethodId} {below : List Frame} {meth : Method} {c : Code} {l : Launch} {b L d : Nat} {xs : Nat → Int32} (hL : L ≤ 3072) (hd : d ≤ 100) (C0 : lw_At p s m meth c b L xs) {wF : sW} (hrun : runs (Ex pro d) mL_law (w00 L xs) [rV 25] = some (some (iV 1), wF)) (hc : uc wF ≤ 601024) (hs : us wF ≤ 7293034)
    (hSim : ∀ K : LC, lcL K = L → KN K s → SimC l K infA d (Ex pro d)) : W p l e room_1 s m #[Value.ref b] below meth c s.heap [] 0 0 (lw_Z below #[Value.ref b] s) (entryFrame m ([Value.ref b] : List Value).toArray 7) := by
  obtain ⟨hx, hb, hr, hml, hown, hts, hX, hbl, hlocks, hgv⟩ := id C0
  obtain ⟨K, k1, k2, k3, k4, hKN⟩ := law_KN hts hX hbl hgv
  obtain ⟨hlen, n, hn⟩ := runs_iff.mp hrun
  obtain ⟨Z, hZ⟩ : ∃ Z : MZ, Z = (p, l, e, room_1, s, m, #[Value.ref b], below, meth, c, lw_Z below #[Value.ref b] s, code, 7, RL, lw_tbl) := ⟨_, rfl⟩
  have hOld : Old K s.heap := ⟨by rw [k1]; exact Nat.le_refl _, fun q _ => by rw [k1]⟩
  have B : BX Z K := by
    rw [hZ]
    exact ⟨hx, hb, hml, hown, hts, fun w hw => (List.mem_filter.mp hw).1, hKN, hOld, (by show 1 ≤ 2048; decide), (by show 60 ≤ 84000; decide)⟩
  have hrm : RoomD Z d := by rw [hZ]; exact ⟨by show d + 1 ≤ 2048; omega, by show 60 * (d + 1) ≤ 84000; omega⟩
  let adr : Int → Nat := fun r => if 1 ≤ r ∧ r ≤ 23 then lcE K (r - 1).toNat else if r = 24 then lcG K else lcB K
  have hws : wsO (lcA K) adr (w00 L xs) = [] := rfl
  have hRW : RW K (w00 L xs) adr s.heap := by
    refine ⟨by rw [k3, k4]; exact w00_wf L xs, fun k hk => ?_, rfl, rfl, ?_, ?_⟩
    · show (if _ then _ else _) = _
      rw [if_pos (by omega), show ((k : Int) + 1 - 1).toNat = k by omega]
    · rw [hws]; exact fun k q h => by simp at h
    · rw [hws]; exact ⟨fun i j p q h => by simp at h, fun k q h => by simp at h⟩
  have hl := lv_entry ([.ref b]) (n := 7) (Nat.le_of_ble_eq_true rfl)
  rw [lg_entry_eq]
  generalize (lg_sl ([.ref b]) ++ List.replicate (7 - (lg_sl ([.ref b])).length) Slot.unset).toArray = lsM at hl ⊢
  have hadr : adr 25 = b := by show lcB K = b; exact k2
  have hl : lv_has lsM 7 (lvs adr (ent 7 [rV 25]) 0) := by
    have e : lvs adr (ent 7 [rV 25]) 0 = [(0, .ref (adr 25))] := rfl
    rw [e, hadr]
    exact hl
  have hok : okS (w00 L xs) [rV 25] := by
    intro v hv
    have : v = rV 25 := by simpa using hv
    rw [this]
    exact Or.inr (by show (20 : Int) ≠ 0; decide)
  have key := itr_sim (Z := Z) (K := K) (w0 := w00 L xs) (adr0 := adr) (C := Ex pro d) (d := d) (inf := infA) (mi := lawI meth.name) (rF := (some (iV 1), wF)) B (by rw [hZ]; rfl) (by rw [hZ]; rfl) (by rw [hZ]; rfl) (by rw [hZ]; rfl) (by rw [k3]; omega) (lawVal _) (Ex_ext pro d) (by rw [hZ]; exact hSim K k3 hKN) hrm (fun mid mi h => infA_ok h) (by rw [hZ]; exact ⟨hc, hs⟩) ?_ n _ hn
  · have := key adr s.heap [] lsM hRW (by rw [hZ]; exact va_S.rf) (fun v hv => by cases hv) (okL_ent hok) (by rw [hZ]; rfl) (by rw [hZ]; exact hl) (fun r _ => rfl) Ext.rf
    rw [hZ] at this
    exact this
  · intro o hoF e' pc ls st w k hmem hpc hret hd' hvr h
    obtain ⟨⟨hh, hv⟩, -, -⟩ := (lawVal meth.name).1 e' hmem
    obtain ⟨epc, ei, el, et, en, ea, es⟩ := e'
    dsimp only at h hret hd' hvr hv
    cases ei with
    | ireturn =>
      obtain ⟨x, r, hs', h'⟩ := pI_s h
      clear h
      subst hs'
      obtain ⟨hs', h⟩ := p0_s h'
      subst hs'
      have hl1 : el = 1 := of_decide_eq_true hv
      subst hl1
      obtain ⟨h1, h2⟩ := if_s (show (if x = 0 ∨ x = 1 then some (Sum.inr (some (Sum.inl x), w)) else none) = some o from h)
      have hrF := hoF _ (Option.some.inj h2).symm
      have hx1 : x = 1 := by
        have := (Prod.mk.inj hrF).1
        simpa using this
      have hw1 : w = wF := (Prod.mk.inj hrF).2
      subst hx1
      subst hw1
      intro adr' H locs lsM' hR' hS' hok' hL' hn' hl' hg' hx'
      rw [hZ] at hd' hS' ⊢
      refine va_forget (fun q hq => by have := hS'.2.2 q hq; unfold oldA at this; rw [k1] at this; exact this) ?_
      refine W.widen (k := 601024) (n := 7293034) (by show uc w - 0 ≤ _; omega) (by show us w - 0 ≤ _; omega) ?_
      exact lw_ret hx hb hr hlocks hd'
    | new i =>
      exfalso
      have : ea = [] := by simpa [isRet] using hret
      subst this
      obtain ⟨-, h⟩ := p0_s h
      have := hoF _ (Option.some.inj h).symm
      cases this
    | lreturn => cases hvr
    | areturn => cases hvr
    | return_ => cases hvr
    | _ => cases hret
