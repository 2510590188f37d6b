/-! ===== contracts of the methods, calls, returns ===== -/
/-- a method: name, bytes, locals, what it returns, its table, its handlers -/
abbrev sI : Type := MethodName × ByteArray × Nat × Option FieldType × sM × List (Nat × Nat × Nat × Nat)
def cdW (mi : sI) : Cond := match mi.2.2.2.2.2 with
  | [] => .code mi.1 mi.2.1 mi.2.2.1 mi.2.2.2.1
  | _ :: _ => .codeWith mi.1 mi.2.1 mi.2.2.1 mi.2.2.2.1 mi.2.2.2.2.2
def wsM (mi : sI) : List Cond := cdW mi :: tG
theorem wsM_0 {mi : sI} (h : mi.2.2.2.2.2 = []) : wsM mi = .code mi.1 mi.2.1 mi.2.2.1 mi.2.2.2.1 :: tG := by unfold wsM cdW; rw [h]
theorem wsM_1 {mi : sI} (h : mi.2.2.2.2.2 ≠ []) : wsM mi = .codeWith mi.1 mi.2.1 mi.2.2.1 mi.2.2.2.1 mi.2.2.2.2.2 :: tG := by
  unfold wsM cdW
  cases e : mi.2.2.2.2.2 with
  | nil => exact absurd e h
  | cons a b => rfl
def rmD (d mc ms : Nat) : Room := { frames := d, cells := mc, slots := ms, locals := 60 * d }
def PcM (K : LC) (w : sW) (adr : Int → Nat) (as : List sV) : Array Value → State → Prop := fun v U => v = (as.map (mvV adr)).toArray ∧ KN K U ∧ Old K U.heap ∧ RW K w adr U.heap ∧ okS w as
def QcM (K : LC) (w : sW) (adr : Int → Nat) (r : Option sV) (w' : sW) : Array Value → State → Outcome → State → Prop := fun _ st oc t =>
  (∃ adr' : Int → Nat, oc = .returned (r.map (mvV adr')) ∧ RW K w' adr' t.heap ∧ (∀ q, q < nx w → adr' q = adr q) ∧ ∀ v, r = some v → okV w' v) ∧ va_F (oldA K) st t
def CTM (l : Launch) (K : LC) (d : Nat) (mi : sI) (w : sW) (adr : Int → Nat) (as : List sV) (r : Option sV) (w' : sW) : Prop :=
  Met l mi.1 (wsM mi) (rmD d (uc w' - uc w) (us w' - us w)) (PcM K w adr as) (QcM K w adr r w') (uc w' - uc w) (us w' - us w) (oldA K)
abbrev thrown : Option sV := some (.inr (.inr (-7)))
/-- what is said of a method's words -/
def MOK (mi : sI) : Prop :=
  cdW mi ∈ tG ∧ Cond.initialized mi.1.cls ∈ tG ∧ (mi.1.cls ≠ "java/lang/invoke/MethodHandle" ∧ mi.1.cls ≠ "java/lang/invoke/VarHandle") ∧ mi.2.2.1 ≤ 40 ∧ plainName mi.1.cls = true
def parN (mi : sI) : Option Nat := (parseMethodDescriptor mi.1.desc).map (fun d => d.parameters.length)
theorem KX.mv {K : LC} {u U : State} (hvm : u.vm.Alike U.vm) (hw : ∀ w ∈ thrW, w.before #[] u = true → w.before #[] U = true) (hs : ∀ {k : Nat} {tx : String} {sa : Nat}, vk_R "BitRopes" k tx sa u → vk_R "BitRopes" k tx sa U) (h : KX K u) : KX K U :=
  ⟨vx_Zq.moved hvm h.1, vx_Zq.moved hvm h.2.1, fun q hq => (h.2.2.1 q hq).imp fun _ z => hs z, fun w hw' => hw w hw' (h.2.2.2 w hw')⟩
theorem thrW_ot : ∀ w ∈ thrW, w.onTables = true ∧ w.keepsFace = true := by
  intro w hw
  simp only [thrW, List.mem_cons, List.not_mem_nil, or_false] at hw
  rcases hw with rfl | rfl | rfl | rfl <;> exact ⟨rfl, rfl⟩
theorem KX.warm {K : LC} {u U : State} (hW : u.WarmedH U.vm) (h : KX K u) : KX K U :=
  KX.mv hW.alike (fun w hw h1 => va_tabs (u := u.setVm U.vm) (thrW_ot w hw).1 rfl (Cond.before_shiftedFace (State.Shifted.of_warmed hW) w (thrW_ot w hw).2 h1)) (fun z => vk_R.warm hW z) h
theorem KX.same {K : LC} {u U : State} (hv : u.vm = U.vm) (h : KX K u) : KX K U :=
  KX.mv (by rw [hv]; exact Vm.Alike.refl _) (fun w hw h1 => va_tabs (thrW_ot w hw).1 hv h1) (fun z => vk_R.same hv.symm z) h
theorem KN.mv {K : LC} {u U : State} (hvm : u.vm.Alike U.vm) (hw : ∀ w ∈ nestW, va_Nw w u → va_Nw w U) (hx : KX K u → KX K U) (h : KN K u) : KN K U := by
  obtain ⟨h1, h2, h3, h4, h5, h6, h7, h8, h9, h10, h11⟩ := h
  exact ⟨va_K.moved hvm h1, va_En.moved hvm h2, va_Ef.moved hvm h3, va_Ef.moved hvm h4, va_Ef.moved hvm h5, va_Z.moved hvm h6, va_T.moved hvm h7, ⟨va_X.moved hvm h8.1, h8.2⟩, fun w q => hw w q (h9 w q), fun C hC => va_AO.moved hvm (h10 C hC), hx h11⟩
theorem nestW_all {P : Cond → Prop} (h : ∀ (a : String) (i : Nat) (x : MethodName) (q : String), P (.methodLinkNest a i x q)) : ∀ w ∈ nestW, P w := by
  intro w hw
  simp only [nestW, List.mem_cons, List.not_mem_nil, or_false] at hw
  rcases hw with rfl | rfl | rfl | rfl | rfl | rfl | rfl <;> exact h _ _ _ _
theorem KN.warm {K : LC} {u U : State} (hW : u.WarmedH U.vm) (h : KN K u) : KN K U := KN.mv hW.alike (nestW_all (P := fun w => va_Nw w u → va_Nw w U) (fun _ _ _ _ => va_Nw.warmM hW)) (KX.warm hW) h
theorem KN.same {K : LC} {u U : State} (hv : u.vm = U.vm) (h : KN K u) : KN K U := KN.mv (by rw [hv]; exact Vm.Alike.refl _) (nestW_all (P := fun w => va_Nw w u → va_Nw w U) (fun _ _ _ _ => va_Nw.same rfl hv)) (KX.same hv) h
theorem tG_in {w : Cond} (h : w ∈ tG) : goodWord w = true := (List.mem_filter.mp h).2
theorem PcM.blind {K : LC} {w : sW} {adr : Int → Nat} {as : List sV} : FrameBlind (PcM K w adr as) := by
  intro a U g mk h
  obtain ⟨h1, h2, h3, h4, h5⟩ := h
  exact ⟨h1, KN.same (u := U) rfl h2, h3, h4, h5⟩
section SJ
variable {Z : MZ} {K : LC} {w0 w : sW} {adr0 : Int → Nat} {C : sC} {ret tg pc : Nat} {nn : List Nat} {ax : List Int} {sw : List (Int × Nat)} {ls : sL} {st : List sV} {kr : Option sV → sW → Option sO} {k : Nat → sL → List sV → sW → Option sO} {o : sO}
theorem good_zt (B : BX Z K) {ws : List Cond} (h : ∀ w ∈ ws, w ∈ tG) : GoodIn (zt Z) ws := fun w hw => ⟨B.2.2.2.2.2.1 w (h w hw), good_of_word (tG_in (h w hw))⟩
theorem wsM_tG {mi : sI} (h : MOK mi) : ∀ w ∈ wsM mi, w ∈ tG := fun w hw => (List.mem_cons.mp hw).elim (fun e => by rw [e]; exact h.1) id
/-- behind a call -/
theorem call_core {w1 : sW} {r : Option sV} {rest : List sV} {stM : List Value} {adr : Int → Nat} {H : Heap} {locs : List Loc} {lsM : Array Slot} {a : Array Value}
    (hrun : va_Run (zp Z) (zl Z) (ze Z) (zR Z) (zs Z) (zm Z) (za Z) (zb Z) (zh Z) (zc Z) H locs (uc w - uc w0) (us w - us w0) (uc w1 - uc w) (us w1 - us w) (F0 (zm Z) pc lsM stM) (rest.map (mvV adr)) (QcM K w adr r w1 a) (oldA K))
    (hN : AtM Z K w0 adr0 (pc + 3) ls (r.toList ++ rest) w1) (hR : RW K w adr H) (hS : va_S (oldA K) (zs Z).heap H locs) (ho : okS w rest) (hL : okL w ls) (hn : ls.length = zn Z) (hl : lv_has lsM (zn Z) (lvs adr ls 0)) (hg : ∀ r, r < nx w0 → adr r = adr0 r) (hx : Ext w0 w) (hx1 : Ext w w1) :
    Wz Z H locs (uc w - uc w0) (us w - us w0) (F0 (zm Z) pc lsM stM) := by
  intro T hT X
  obtain ⟨v, st₀, t, T', L, h0, X', hLL, e1, e2, ⟨⟨adr', hv, hRW, hag, hok⟩, hz, hk⟩, st⟩ := hrun T hT X
  cases hv
  rw [h0] at hz hk
  have hlt := hR.1.lt
  have hst : okS w1 (r.toList ++ rest) := by
    intro u hu
    rcases List.mem_append.mp hu with q | q
    · exact hok u (by simpa using q)
    · exact (ho u q).ext hx1 hlt
  have hcells : uc w - uc w0 + (uc w1 - uc w) = uc w1 - uc w0 := by have := hx.2.2.1; have := hx1.2.2.1; omega
  have hslots : us w - us w0 + (us w1 - us w) = us w1 - us w0 := by have := hx.2.2.2; have := hx1.2.2.2; omega
  rw [hcells, hslots] at X'
  have hmap : (r.toList ++ rest).map (mvV adr') = (r.map (mvV adr')).toList ++ rest.map (mvV adr) := by
    rw [List.map_append]
    congr 1
    · cases r <;> rfl
    · exact List.map_congr_left fun u hu => mv_eq hlt hag (ho u hu)
  obtain ⟨t2, a1, b1⟩ := hN adr' T'.heap (locs ++ L) lsM (by rw [e1]; exact hRW)
    ⟨Nat.le_trans hS.1 (by rw [e1]; exact hz), fun q h1 h2 => by rw [e1, hk q (Nat.lt_of_lt_of_le h1 hS.1) h2]; exact hS.2.1 q h1 h2, fun q hq => by
      rcases List.mem_append.mp hq with h | h
      · exact hS.2.2 q h
      · exact hLL q h⟩
    hst (fun u hu => (hL u hu).ext hx1 hlt) hn (lvh_sub hl (fun i u hu => ⟨hu, mv_eq hlt hag (okL_at hL hu)⟩)) (fun q hq => by rw [hag q (Int.lt_of_lt_of_le hq hx.2.1)]; exact hg q hq) (hx.tr hx1) T' rfl X'
  rw [hmap] at a1
  exact ⟨t2, st t2 a1, b1⟩
theorem old_now (B : BX Z K) {H : Heap} {locs : List Loc} (hS : va_S (oldA K) (zs Z).heap H locs) : Old K H := by
  have hO := B.2.2.2.2.2.2.2.1
  refine ⟨Nat.le_trans hO.1 hS.1, fun q hq => ?_⟩
  rw [hS.2.1 q (Nat.lt_of_lt_of_le hq hO.1) (Nat.not_le.mpr hq)]
  exact hO.2 q hq
theorem pcM_of (B : BX Z K) {H : Heap} {locs : List Loc} {adr : Int → Nat} {as : List sV} (hS : va_S (oldA K) (zs Z).heap H locs) (hR : RW K w adr H) (ho : okS w as) : ∀ U : State, U.heap = H → (zs Z).WarmedH U.vm → PcM K w adr as (as.map (mvV adr)).toArray U := by
  intro U hU hW
  exact ⟨rfl, KN.warm hW B.2.2.2.2.2.2.1, by rw [hU]; exact old_now B hS, by rw [hU]; exact hR, ho⟩
theorem okS_ap {w : sW} {a b : List sV} : okS w (a ++ b) ↔ okS w a ∧ okS w b := by
  simp only [okS, List.mem_append]
  exact ⟨fun h => ⟨fun v hv => h v (Or.inl hv), fun v hv => h v (Or.inr hv)⟩, fun h v hv => hv.elim (h.1 v) (h.2 v)⟩
theorem okS_rev {w : sW} {a : List sV} : okS w a.reverse ↔ okS w a := by simp [okS]
/-- what the call answers -/
theorem cal_s {mid rty : Nat} {as rest : List sV} {k' : List sV → sW → Option sO} (h : cal C mid rty w as rest k' = some o) : catSum rest ≤ 8 ∧ ∃ (r : Option sV) (w1 : sW), C mid w as = some (r, w1) ∧ r ≠ thrown ∧ k' (r.toList ++ rest) w1 = some o := by
  unfold cal at h
  cases hc : Nat.ble (catSum rest) 8 with
  | false => rw [hc] at h; cases h
  | true =>
    rw [hc] at h
    refine ⟨Nat.le_of_ble_eq_true hc, ?_⟩
    simp only [cond_true] at h
    split at h
    · unfold bN at h
      split at h
      · rename_i e
        exact ⟨none, _, e, (by simp), h⟩
      · cases h
    · unfold bL at h
      split at h
      · rename_i e
        exact ⟨_, _, e, (by simp), h⟩
      · cases h
    · unfold bR at h
      split at h
      · rename_i x _ e
        obtain ⟨h0, h⟩ := if_s h
        exact ⟨_, _, e, (by intro z; simp only [Option.some.injEq, Sum.inr.injEq] at z; omega), h⟩
      · cases h
    · unfold bI at h
      split at h
      · rename_i e
        exact ⟨_, _, e, (by simp), h⟩
      · cases h
/-- what is known of the methods that are called -/
def SimC (l : Launch) (K : LC) (inf : Nat → Option sI) (d : Nat) (C : sC) : Prop := ∀ (mid : Nat) (w : sW) (as : List sV) (r : Option sV) (w' : sW), C mid w as = some (r, w') → r ≠ thrown → Ext w w' ∧ ∀ (mi : sI), inf mid = some mi → ∀ adr, CTM l K d mi w adr as r w'
variable {inf : Nat → Option sI} {d : Nat}
/-- the room of the frame below -/
def RoomD (Z : MZ) (d : Nat) : Prop := d + 1 ≤ (zR Z).frames ∧ 60 * (d + 1) ≤ (zR Z).locals
theorem room_ok {mi : sI} (hr : RoomD Z d) (hm : MOK mi) {mc ms : Nat} : (rmD d mc ms).frames + 1 ≤ (zR Z).frames ∧ 8 + (mi.2.2.1 + 11) + (rmD d mc ms).locals ≤ (zR Z).locals := by
  have h1 := hr.1
  have h2 := hr.2
  have h3 := hm.2.2.2.1
  exact ⟨h1, by show 8 + (mi.2.2.1 + 11) + 60 * d ≤ _; omega⟩
theorem mr0 {m : MethodId} {pc : Nat} {ls : Array Slot} {st : List Value} : (F0 m pc ls st).monitorRoom = 0 := rfl
theorem sm_invokevirtual (B : BX Z K) {i : Nat} {mi : sI} (hh0 : mi.2.2.2.2.2 = []) (hC : SimC (zl Z) K inf d C) (hrm : RoomD Z d) (hinf : inf tg = some mi) (hm : MOK mi) (hr : ∃ (c rty n : Nat), c < 10 ∧ ax = [((c + 1 : Nat) : Int)] ∧ nn = [rty, n] ∧ parN mi = some n ∧ mi.1.cls = (clN c).1) (hlk : Cond.methodLink (zo Z) i mi.1 ∈ tG) (him : Cond.instanceMethod mi.1 ∈ tG) (hsl : Cond.selects mi.1.cls mi.1 mi.1 ∈ tG)
    (hd : decode (zC Z) pc = .ok (.invokevirtual i, 3)) (hB : ∀ pc ls st w', k pc ls st w' = some o → uc w' - uc w0 ≤ (zR Z).cells ∧ us w' - us w0 ≤ (zR Z).slots) (h : sx C ret (.invokevirtual i) tg nn ax sw pc ls st w kr k = some o) (hk : KOK Z K w0 adr0 w k o) : AtM Z K w0 adr0 pc ls st w := by
  obtain ⟨c, rty, n, hc10, hax, hnn, hpn, hcl⟩ := hr
  subst hax
  subst hnn
  replace h : pN n st _ = some o := h
  obtain ⟨as, r0, hs, hlen, h'⟩ := pN_s h
  clear h
  subst hs
  obtain ⟨a, rest, hs, h⟩ := pR_s h'
  clear h'
  subst hs
  obtain ⟨hkd, h⟩ := if_s h
  obtain ⟨hcat, r, w1, hcall, hnt, h⟩ := cal_s h
  obtain ⟨hx1, hct⟩ := hC tg w _ r w1 hcall hnt
  intro adr H locs lsM hR hS ho hL hn hl hg hx
  have ho2 := (okS_ap.mp ho).2
  have hoA : okS w (.inr (.inr a) :: as) := okS_c.mpr ⟨(okS_c.mp ho2).1, okS_rev.mp (okS_ap.mp ho).1⟩
  have h32 : 32 ≤ a := kd_big hR.1 (by omega)
  obtain ⟨hlt, -⟩ := hR.live h32 (by omega)
  have hget := wsO_get (cA := lcA K) (adr := adr) h32 hlt
  rw [cell_obj hkd hc10] at hget
  have hrv := va_recv B.2.2.2.2.2.2.1.1 hR.2.2.2.2.1 (cl_at hc10) hget
  obtain ⟨b1, b2⟩ := hB _ _ _ _ h
  have hu1 := hx.2.2.1
  have hu2 := hx1.2.2.1
  have hv1 := hx.2.2.2
  have hv2 := hx1.2.2.2
  have e0 : mvV adr (.inr (.inr a)) = .ref (adr a) := mv_ref (by omega)
  have hpc := pcM_of B hS hR hoA
  rw [List.map_cons, e0] at hpc
  refine call_core (rest := rest) (r := r) (w1 := w1) (va_runV (C := (clN c).1) (b := adr a) (As := as.map (mvV adr)) ⟨B.1, B.2.1, B.2.2.1, B.2.2.2.1, B.2.2.2.2.1⟩ (hct mi hinf adr) (cwV n B.2.2.2.2.1 (good_zt B ?_) (wsM_0 hh0) rfl rfl ⟨hcl, hm.2.2.1.1, hm.2.2.1.2, hpn⟩ (room_ok hrm hm)) ⟨PcM.blind, hrv, hpc⟩ rfl (by simp [hlen]) hl.1 ?_ (by rw [mr0, catSum_mv]; omega) hd ⟨by omega, by omega⟩) (hk _ _ _ _ h hx1) hR hS (okS_c.mp ho2).2 hL hn hl hg hx hx1
  · intro w hw
    simp only [wsV, List.cons_append, List.nil_append, List.mem_cons] at hw
    rcases hw with rfl | rfl | rfl | rfl | hw
    · exact hlk
    · exact him
    · rw [← hcl]; exact hsl
    · rw [← hcl]; exact hm.2.1
    · exact wsM_tG hm w hw
  · simp only [List.map_append, List.map_reverse, List.map_cons, e0]
theorem sm_invokestatic (B : BX Z K) {i : Nat} {mi : sI} (hC : SimC (zl Z) K inf d C) (hrm : RoomD Z d) (hinf : inf tg = some mi) (hm : MOK mi) (hr : ∃ (rty n : Nat), nn = [rty, n] ∧ parN mi = some n) (hlk : Cond.methodLink (zo Z) i mi.1 ∈ tG ∨ ∃ host, Cond.methodLinkNest (zo Z) i mi.1 host ∈ nestW ∧ mi.2.2.2.2.2 = []) (hst : Cond.static mi.1 ∈ tG)
    (hd : decode (zC Z) pc = .ok (.invokestatic i, 3)) (hB : ∀ pc ls st w', k pc ls st w' = some o → uc w' - uc w0 ≤ (zR Z).cells ∧ us w' - us w0 ≤ (zR Z).slots) (h : sx C ret (.invokestatic i) tg nn ax sw pc ls st w kr k = some o) (hk : KOK Z K w0 adr0 w k o) : AtM Z K w0 adr0 pc ls st w := by
  obtain ⟨rty, n, hnn, hpn⟩ := hr
  subst hnn
  replace h : pN n st _ = some o := h
  obtain ⟨as, rest, hs, hlen, h'⟩ := pN_s h
  clear h
  subst hs
  obtain ⟨hcat, r, w1, hcall, hnt, h⟩ := cal_s h'
  clear h'
  obtain ⟨hx1, hct⟩ := hC tg w _ r w1 hcall hnt
  intro adr H locs lsM hR hS ho hL hn hl hg hx
  have hoA : okS w as := okS_rev.mp (okS_ap.mp ho).1
  obtain ⟨b1, b2⟩ := hB _ _ _ _ h
  have hu1 := hx.2.2.1
  have hu2 := hx1.2.2.1
  have hv1 := hx.2.2.2
  have hv2 := hx1.2.2.2
  have hpc := pcM_of B hS hR hoA
  have hsk : (as.reverse ++ rest).map (mvV adr) = (as.map (mvV adr)).reverse ++ rest.map (mvV adr) := by simp [List.map_reverse]
  have hws : Cond.methodLink (zo Z) i mi.1 ∈ tG → ∀ w ∈ va_wsS (zo Z) i mi.1 (wsM mi), w ∈ tG := by
    intro hlk w hw
    simp only [va_wsS, List.cons_append, List.nil_append, List.mem_cons] at hw
    rcases hw with rfl | rfl | rfl | hw
    · exact hlk
    · exact hst
    · exact hm.2.1
    · exact wsM_tG hm w hw
  rcases hlk with hlk | ⟨host, hlk, hh0⟩
  · by_cases hh0 : mi.2.2.2.2.2 = []
    · exact call_core (rest := rest) (r := r) (w1 := w1) (va_runS (As := as.map (mvV adr)) ⟨B.1, B.2.1, B.2.2.1, B.2.2.2.1, B.2.2.2.2.1⟩ (hct mi hinf adr) (va_cwS n B.2.2.2.2.1 (good_zt B (hws hlk)) (wsM_0 hh0) rfl rfl ⟨hm.2.2.1.1, hm.2.2.1.2, hpn⟩ (room_ok hrm hm)) ⟨PcM.blind, hpc⟩ rfl (by simp [hlen]) hl.1 hsk (by rw [mr0, catSum_mv]; omega) hd ⟨by omega, by omega⟩) (hk _ _ _ _ h hx1) hR hS (okS_ap.mp ho).2 hL hn hl hg hx hx1
    · exact call_core (rest := rest) (r := r) (w1 := w1) (vx_runSW (As := as.map (mvV adr)) ⟨B.1, B.2.1, B.2.2.1, B.2.2.2.1, B.2.2.2.2.1⟩ (hct mi hinf adr) (vx_cwSW n B.2.2.2.2.1 (good_zt B (hws hlk)) (wsM_1 hh0) rfl rfl ⟨hm.2.2.1.1, hm.2.2.1.2, hpn⟩ (room_ok hrm hm)) ⟨PcM.blind, hpc⟩ rfl (by simp [hlen]) hl.1 hsk (by rw [mr0, catSum_mv]; omega) hd ⟨by omega, by omega⟩) (hk _ _ _ _ h hx1) hR hS (okS_ap.mp ho).2 hL hn hl hg hx hx1
  · exact call_core (rest := rest) (r := r) (w1 := w1) (va_runSN (As := as.map (mvV adr)) ⟨B.1, B.2.1, B.2.2.1, B.2.2.2.1, B.2.2.2.2.1⟩ (hct mi hinf adr) ⟨va_cnB n B.2.2.2.2.1 (good_zt B (wsM_tG hm)) (wsM_0 hh0) rfl rfl (B.2.2.2.2.2.2.1.2.2.2.2.2.2.2.2.1 _ hlk) (B.2.2.2.2.1 _ (B.2.2.2.2.2.1 _ hm.2.1)) ⟨hm.2.2.1.1, hm.2.2.1.2, hpn⟩ (room_ok hrm hm), B.2.2.2.2.1 _ (B.2.2.2.2.2.1 _ hst), trivial⟩ ⟨PcM.blind, hpc⟩ rfl (by simp [hlen]) hl.1 hsk (by rw [mr0, catSum_mv]; omega) hd ⟨by omega, by omega⟩) (hk _ _ _ _ h hx1) hR hS (okS_ap.mp ho).2 hL hn hl hg hx hx1
theorem sm_invokespecial (B : BX Z K) {i : Nat} {mi : sI} (hh0 : mi.2.2.2.2.2 = []) (hC : SimC (zl Z) K inf d C) (hrm : RoomD Z d) (hinf : inf tg = some mi) (hm : MOK mi) (hret : mi.2.2.2.1 = none) (hini : mi.1.name = "<init>") (hr : ∃ (c n : Nat), c < 10 ∧ ax = [((c + 1 : Nat) : Int)] ∧ nn = [n] ∧ parN mi = some n) (hlk : Cond.methodLink (zo Z) i mi.1 ∈ tG ∨ ∃ host, Cond.methodLinkNest (zo Z) i mi.1 host ∈ nestW) (him : Cond.instanceMethod mi.1 ∈ tG)
    (hd : decode (zC Z) pc = .ok (.invokespecial i, 3)) (hB : ∀ pc ls st w', k pc ls st w' = some o → uc w' - uc w0 ≤ (zR Z).cells ∧ us w' - us w0 ≤ (zR Z).slots) (h : sx C ret (.invokespecial i) tg nn ax sw pc ls st w kr k = some o) (hk : KOK Z K w0 adr0 w k o) : AtM Z K w0 adr0 pc ls st w := by
  obtain ⟨c, n, hc10, hax, hnn, hpn⟩ := hr
  subst hax
  subst hnn
  replace h : pN n st _ = some o := h
  obtain ⟨as, r0, hs, hlen, h'⟩ := pN_s h
  clear h
  subst hs
  obtain ⟨a, rest, hs, h⟩ := pR_s h'
  clear h'
  subst hs
  obtain ⟨hkd, h⟩ := if_s h
  obtain ⟨hcat, r, w1, hcall, hnt, h⟩ := cal_s h
  obtain ⟨hx1, hct⟩ := hC tg w _ r w1 hcall hnt
  intro adr H locs lsM hR hS ho hL hn hl hg hx
  have ho2 := (okS_ap.mp ho).2
  have hoA : okS w (.inr (.inr a) :: as) := okS_c.mpr ⟨(okS_c.mp ho2).1, okS_rev.mp (okS_ap.mp ho).1⟩
  have h32 : 32 ≤ a := kd_big hR.1 (by omega)
  obtain ⟨b1, b2⟩ := hB _ _ _ _ h
  have hu1 := hx.2.2.1
  have hu2 := hx1.2.2.1
  have hv1 := hx.2.2.2
  have hv2 := hx1.2.2.2
  have e0 : mvV adr (.inr (.inr a)) = .ref (adr a) := mv_ref (by omega)
  have hpc := pcM_of B hS hR hoA
  rw [List.map_cons, e0] at hpc
  have hwm : wsM mi = Cond.code mi.1 mi.2.1 mi.2.2.1 none :: tG := by rw [wsM_0 hh0, hret]
  have hsk : (as.reverse ++ .inr (.inr a) :: rest).map (mvV adr) = (as.map (mvV adr)).reverse ++ .ref (adr a) :: rest.map (mvV adr) := by simp only [List.map_append, List.map_reverse, List.map_cons, e0]
  rcases hlk with hlk | ⟨host, hlk⟩
  · exact call_core (rest := rest) (r := r) (w1 := w1) (va_runI (b := adr a) (As := as.map (mvV adr)) ⟨B.1, B.2.1, B.2.2.1, B.2.2.2.1, B.2.2.2.2.1⟩ (hct mi hinf adr) (cwI n B.2.2.2.2.1 (good_zt B (wsM_tG hm)) hwm rfl rfl (B.2.2.2.2.1 _ (B.2.2.2.2.2.1 _ hm.2.1)) (B.2.2.2.2.1 _ (B.2.2.2.2.2.1 _ hlk)) (B.2.2.2.2.1 _ (B.2.2.2.2.2.1 _ him)) hini ⟨hm.2.2.1.1, hm.2.2.1.2, hpn⟩ (room_ok hrm hm)) ⟨PcM.blind, hpc⟩ rfl (by simp [hlen]) hl.1 hsk (by rw [mr0, catSum_mv]; omega) hd ⟨by omega, by omega⟩) (hk _ _ _ _ h hx1) hR hS (okS_c.mp ho2).2 hL hn hl hg hx hx1
  · exact call_core (rest := rest) (r := r) (w1 := w1) (va_runIN (b := adr a) (As := as.map (mvV adr)) ⟨B.1, B.2.1, B.2.2.1, B.2.2.2.1, B.2.2.2.2.1⟩ (hct mi hinf adr) ⟨va_cnB n B.2.2.2.2.1 (good_zt B (wsM_tG hm)) hwm rfl rfl (B.2.2.2.2.2.2.1.2.2.2.2.2.2.2.2.1 _ hlk) (B.2.2.2.2.1 _ (B.2.2.2.2.2.1 _ hm.2.1)) ⟨hm.2.2.1.1, hm.2.2.1.2, hpn⟩ (room_ok hrm hm), hini, B.2.2.2.2.1 _ (B.2.2.2.2.2.1 _ him)⟩ ⟨PcM.blind, hpc⟩ rfl (by simp [hlen]) hl.1 hsk (by rw [mr0, catSum_mv]; omega) hd ⟨by omega, by omega⟩) (hk _ _ _ _ h hx1) hR hS (okS_c.mp ho2).2 hL hn hl hg hx hx1
end SJ
