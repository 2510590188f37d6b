/-! ===== stretches, whole methods, every depth ===== -/
theorem ft_s : ∀ (L : List sE) (pc : Nat) (e : sE), ft L pc = some e → e ∈ L ∧ e.1 = pc
  | [], pc, e, h => by simp [ft] at h
  | a :: r, pc, e, h => by
    simp only [ft] at h
    cases hb : Nat.beq a.1 pc with
    | true =>
      rw [hb] at h
      simp only [cond_true, Option.some.injEq] at h
      subst h
      exact ⟨List.mem_cons_self, Nat.eq_of_beq_eq_true hb⟩
    | false =>
      rw [hb] at h
      obtain ⟨h1, h2⟩ := ft_s r pc e h
      exact ⟨List.mem_cons_of_mem _ h1, h2⟩
theorem fm_s : ∀ (L : List (Nat × List Bool)) (pc : Nat) (b : List Bool), fm L pc = some b → (pc, b) ∈ L
  | [], pc, b, h => by simp [fm] at h
  | a :: r, pc, b, h => by
    simp only [fm] at h
    cases hb : Nat.beq a.1 pc with
    | true =>
      rw [hb] at h
      simp only [cond_true, Option.some.injEq] at h
      have := Nat.eq_of_beq_eq_true hb
      rw [← h, ← this]
      exact List.mem_cons_self
    | false =>
      rw [hb] at h
      exact List.mem_cons_of_mem _ (fm_s r pc b h)
theorem mask_len : ∀ (b : List Bool) (ls : sL), b.length = ls.length → (mask b ls).length = ls.length
  | [], [], _ => rfl
  | [], _ :: _, h => by simp at h
  | _ :: _, [], h => by simp at h
  | true :: r, v :: l, h => by
    simp only [mask, List.length_cons] at h ⊢
    rw [mask_len r l (by omega)]
  | false :: r, v :: l, h => by
    simp only [mask, List.length_cons] at h ⊢
    rw [mask_len r l (by omega)]
theorem mask_at : ∀ (b : List Bool) (ls : sL) (i : Nat) (v : sV), (mask b ls)[i]? = some (some v) → ls[i]? = some (some v)
  | [], ls, i, v, h => by cases ls <;> simp [mask] at h
  | true :: r, [], i, v, h => by simp [mask] at h
  | false :: r, [], i, v, h => by simp [mask] at h
  | true :: r, u :: l, 0, v, h => by simpa [mask] using h
  | false :: r, u :: l, 0, v, h => by simp [mask] at h
  | true :: r, u :: l, i + 1, v, h => by
    simp only [mask, List.getElem?_cons_succ] at h ⊢
    exact mask_at r l i v h
  | false :: r, u :: l, i + 1, v, h => by
    simp only [mask, List.getElem?_cons_succ] at h ⊢
    exact mask_at r l i v h
/-- a return of this kind stands in a method that returns so -/
def vR (ret : Nat) (e : Instr) : Bool := match e with
  | .ireturn => Nat.beq ret 1 || Nat.beq ret 4
  | .lreturn => Nat.beq ret 2
  | .areturn => Nat.beq ret 3
  | .return_ => Nat.beq ret 0
  | _ => true
def vRt (ret : Nat) (t : Option FieldType) : Prop := (ret = 0 ∧ t = none) ∨ (ret = 1 ∧ t = some .int) ∨ (ret = 2 ∧ t = some .long) ∨ (ret = 3 ∧ ∃ n, t = some (.object n)) ∨ (ret = 4 ∧ t = some .boolean)
/-- what is checked of a method's table -/
def VAL (inf : Nat → Option sI) (mi : sI) : Prop :=
  (∀ e ∈ mi.2.2.2.2.1.2.2.1, (∃ hh, vB inf mi.1.cls mi.1.name e.2.1 e.1 e.2.2.1 e.2.2.2.1 e.2.2.2.2.1 e.2.2.2.2.2.1 e.2.2.2.2.2.2 hh = true) ∧ decode mi.2.1 e.1 = .ok (e.2.1, e.2.2.1) ∧ vR mi.2.2.2.2.1.2.1 e.2.1 = true) ∧
  (∀ q ∈ mi.2.2.2.2.1.2.2.2, q.2.length = mi.2.2.1) ∧ vRt mi.2.2.2.2.1.2.1 mi.2.2.2.1 ∧ mi.2.2.2.2.1.1 = mi.2.2.1
section SM
variable {Z : MZ} {K : LC} {w0 w : sW} {adr0 : Int → Nat} {C : sC} {d : Nat} {o : sO} {inf : Nat → Option sI} {mi : sI} {rF : Option sV × sW}
theorem AtM.mask {pc : Nat} {ls : sL} {st : List sV} {b : List Bool} (hb : b.length = zn Z) (h : AtM Z K w0 adr0 pc (mask b ls) st w) : AtM Z K w0 adr0 pc ls st w := by
  intro adr H locs lsM hR hS ho hL hn hl hg hx
  refine h adr H locs lsM hR hS ho (fun v hv => ?_) ?_ (lvh_sub hl (fun i v hv => ⟨mask_at _ _ _ _ hv, rfl⟩)) hg hx
  · obtain ⟨i, hi⟩ := List.getElem?_of_mem hv
    exact okL_at hL (mask_at _ _ _ _ hi)
  · rw [mask_len _ _ (hb.trans hn.symm)]; exact hn
theorem sg_sim (B : BX Z K) (hnm : (zh Z).name = mi.1.name) (hown : zo Z = mi.1.cls) (hcc : zC Z = mi.2.1) (hnn : zn Z = mi.2.2.1) (hLL : lcL K ≤ 100000) (hVal : VAL inf mi) (hCe : ExtC C) (hC : SimC (zl Z) K inf d C) (hrm : RoomD Z d) (hmok : ∀ mid mi, inf mid = some mi → MOK mi) (hcap : uc rF.2 - uc w0 ≤ (zR Z).cells ∧ us rF.2 - us w0 ≤ (zR Z).slots)
    (HR : ∀ (e : sE) (pc : Nat) (ls : sL) (st : List sV) (w : sW) (k : Nat → sL → List sV → sW → Option sO), e ∈ mi.2.2.2.2.1.2.2.1 → e.1 = pc → isRet e.2.1 e.2.2.2.2.2.1 = true → decode (zC Z) pc = .ok (e.2.1, e.2.2.1) → vR mi.2.2.2.2.1.2.1 e.2.1 = true → sx C mi.2.2.2.2.1.2.1 e.2.1 e.2.2.2.1 e.2.2.2.2.1 e.2.2.2.2.2.1 e.2.2.2.2.2.2 pc ls st w (fun v w => some (.inr (v, w))) k = some o → AtM Z K w0 adr0 pc ls st w)
    (hF : Ext (wO o) rF.2) (HI : ∀ c, o = .inl c → AtM Z K w0 adr0 c.1 c.2.1 c.2.2.1 c.2.2.2) :
    ∀ (n pc : Nat) (ls : sL) (st : List sV) (w : sW), sg C mi.2.2.2.2.1 n pc ls st w = some o → AtM Z K w0 adr0 pc ls st w
  | 0, pc, ls, st, w, h => by simp [sg] at h
  | n + 1, pc, ls, st, w, h => by
    simp only [sg] at h
    split at h
    · cases h
    · rename_i e he
      obtain ⟨hmem, hpc⟩ := ft_s _ _ _ he
      obtain ⟨⟨hh, hv⟩, hd, hvr⟩ := hVal.1 e hmem
      rw [hpc] at hv hd
      have hk : KOK Z K w0 adr0 w (fun pc ls st w => cutO (fm mi.2.2.2.2.1.2.2.2 pc) pc ls st w (sg C mi.2.2.2.2.1 n pc ls st w)) o := by
        intro pc' ls' st' w' hq _
        replace hq : cutO (fm mi.2.2.2.2.1.2.2.2 pc') pc' ls' st' w' (sg C mi.2.2.2.2.1 n pc' ls' st' w') = some o := hq
        unfold cutO at hq
        split at hq
        · rename_i b hb
          have hm := hVal.2.1 _ (fm_s _ _ _ hb)
          have := HI (pc', mask b ls', st', w') (Option.some.inj hq).symm
          exact AtM.mask (hm.trans hnn.symm) this
        · exact sg_sim B hnm hown hcc hnn hLL hVal hCe hC hrm hmok hcap HR hF HI n pc' ls' st' w' hq
      refine sx_sim (hh := hh) B hnm hLL (by rw [hown]; exact hv) (by rw [hcc]; exact hd) hC hrm hmok (fun pc' ls' st' w' hq => ?_) h hk (fun hr => HR e pc ls st w _ hmem hpc hr (by rw [hcc]; exact hd) hvr h)
      have hx : Ext w' (wO o) := by
        replace hq : cutO (fm mi.2.2.2.2.1.2.2.2 pc') pc' ls' st' w' (sg C mi.2.2.2.2.1 n pc' ls' st' w') = some o := hq
        unfold cutO at hq
        split at hq
        · cases hq
          exact Ext.rf
        · exact sg_ext hCe _ _ _ _ _ _ hq
      have := hx.tr hF
      exact ⟨Nat.le_trans (Nat.sub_le_sub_right this.2.2.1 _) hcap.1, Nat.le_trans (Nat.sub_le_sub_right this.2.2.2 _) hcap.2⟩
theorem itr_sim (B : BX Z K) (hnm : (zh Z).name = mi.1.name) (hown : zo Z = mi.1.cls) (hcc : zC Z = mi.2.1) (hnn : zn Z = mi.2.2.1) (hLL : lcL K ≤ 100000) (hVal : VAL inf mi) (hCe : ExtC C) (hC : SimC (zl Z) K inf d C) (hrm : RoomD Z d) (hmok : ∀ mid mi, inf mid = some mi → MOK mi) (hcap : uc rF.2 - uc w0 ≤ (zR Z).cells ∧ us rF.2 - us w0 ≤ (zR Z).slots)
    (HR : ∀ (o : sO), (∀ r, o = .inr r → r = rF) → ∀ (e : sE) (pc : Nat) (ls : sL) (st : List sV) (w : sW) (k : Nat → sL → List sV → sW → Option sO), e ∈ mi.2.2.2.2.1.2.2.1 → e.1 = pc → isRet e.2.1 e.2.2.2.2.2.1 = true → decode (zC Z) pc = .ok (e.2.1, e.2.2.1) → vR mi.2.2.2.2.1.2.1 e.2.1 = true → sx C mi.2.2.2.2.1.2.1 e.2.1 e.2.2.2.1 e.2.2.2.2.1 e.2.2.2.2.2.1 e.2.2.2.2.2.2 pc ls st w (fun v w => some (.inr (v, w))) k = some o → AtM Z K w0 adr0 pc ls st w) :
    ∀ (n : Nat) (c : Nat × sL × List sV × sW), itr C mi.2.2.2.2.1 n c = some rF → AtM Z K w0 adr0 c.1 c.2.1 c.2.2.1 c.2.2.2
  | 0, c, h => by simp [itr] at h
  | n + 1, c, h => by
    simp only [itr] at h
    cases hs : sg C mi.2.2.2.2.1 2000 c.1 c.2.1 c.2.2.1 c.2.2.2 with
    | none => rw [hs] at h; simp at h
    | some o =>
      rw [hs] at h
      cases o with
      | inr r =>
        simp only [Option.some.injEq] at h
        subst h
        exact sg_sim B hnm hown hcc hnn hLL hVal hCe hC hrm hmok hcap (HR (.inr r) (fun r' e => (Sum.inr.inj e).symm)) Ext.rf (fun c e => by cases e) 2000 _ _ _ _ hs
      | inl c' =>
        have ih := itr_sim B hnm hown hcc hnn hLL hVal hCe hC hrm hmok hcap HR n c' h
        exact sg_sim B hnm hown hcc hnn hLL hVal hCe hC hrm hmok hcap (HR (.inl c') (fun r' e => by cases e)) (itr_ext hCe n c' _ h) (fun c e => by cases e; exact ih) 2000 _ _ _ _ hs
/-- the returns of a method that returns -/
theorem ret_ok (B : BX Z K) (hlocks : (zh Z).locks = false) (hrt : (zh Z).sig.returnType = mi.2.2.2.1) (hVal : VAL inf mi) (hnt : rF.1 ≠ thrown) (hQ : zQ Z = MQ (zb Z) (QcM K w0 adr0 rF.1 rF.2) (za Z) (zs Z) (uc rF.2 - uc w0) (us rF.2 - us w0) (oldA K)) :
    ∀ (o : sO), (∀ r, o = .inr r → r = rF) → ∀ (e : sE) (pc : Nat) (ls : sL) (st : List sV) (w : sW) (k : Nat → sL → List sV → sW → Option sO), e ∈ mi.2.2.2.2.1.2.2.1 → e.1 = pc → isRet e.2.1 e.2.2.2.2.2.1 = true → decode (zC Z) pc = .ok (e.2.1, e.2.2.1) → vR mi.2.2.2.2.1.2.1 e.2.1 = true → sx C mi.2.2.2.2.1.2.1 e.2.1 e.2.2.2.1 e.2.2.2.2.1 e.2.2.2.2.2.1 e.2.2.2.2.2.2 pc ls st w (fun v w => some (.inr (v, w))) k = some o → AtM Z K w0 adr0 pc ls st w := by
  intro o hoF e pc ls st w k hmem hpc hret hd hvr h
  obtain ⟨⟨hh, hv⟩, -, -⟩ := hVal.1 e hmem
  have hty := hVal.2.2.1
  rw [← hrt] at hty
  generalize mi.2.2.2.2.1.2.1 = rk at h hvr hty
  obtain ⟨epc, ei, el, et, en, ea, es⟩ := e
  dsimp only at h hret hd hvr hv
  -- the end of it
  have fin : ∀ (v : Option sV) (adr : Int → Nat) (H : Heap) (locs : List Loc), rF = (v, w) → RW K w adr H → va_S (oldA K) (zs Z).heap H locs → (∀ r, r < nx w0 → adr r = adr0 r) → (∀ u, v = some u → okV w u) → ∀ t : State, t.heap = H → (zs Z).WarmedH t.vm → QcM K w0 adr0 rF.1 rF.2 (za Z) (zs Z) (.returned (v.map (mvV adr))) t := by
    intro v adr H locs e1 hR hS hg hv t ht _
    rw [e1]
    exact ⟨⟨adr, rfl, by rw [ht]; exact hR, hg, hv⟩, hS.F ht⟩
  cases ei with
  | ireturn =>
    obtain ⟨x, r, hs, h'⟩ := pI_s h
    clear h
    subst hs
    obtain ⟨hs, h⟩ := p0_s h'
    subst hs
    have hl1 : el = 1 := of_decide_eq_true hv
    subst hl1
    have hx01 : (rk = 1 ∨ (rk = 4 ∧ (x = 0 ∨ x = 1))) ∧ o = .inr (some (.inl x), w) := by
      simp only [vR, Bool.or_eq_true] at hvr
      rcases hvr with q | q
      · have q := Nat.eq_of_beq_eq_true q
        subst q
        exact ⟨Or.inl rfl, (Option.some.inj h).symm⟩
      · have q := Nat.eq_of_beq_eq_true q
        subst q
        obtain ⟨h1, h2⟩ := if_s (show (if x = 0 ∨ x = 1 then some (Sum.inr (some (Sum.inl x), w)) else none) = some o from h)
        exact ⟨Or.inr ⟨rfl, h1⟩, (Option.some.inj h2).symm⟩
    obtain ⟨hk, ho⟩ := hx01
    have hrF := (hoF _ ho).symm
    intro adr H locs lsM hR hS hok hL hn hl hg hx
    have hx1 : in32 x := (okS_c.mp hok).1
    show W _ _ _ _ _ _ _ _ _ _ _ _ _ _ (zQ Z) _
    rw [hQ, hrF]
    have hf := fin (some (.inl x)) adr H locs hrF hR hS hg (fun u hu => by cases hu; exact hx1)
    rw [hrF] at hf
    rcases hty with q | q | q | q | q
    · omega
    · exact W.iret B.1 B.2.1 q.2 hf hS.2.2 hd hlocks
    · omega
    · omega
    · refine W.zret B.1 B.2.1 q.2 ?_ hf hS.2.2 hd hlocks
      rcases hk with z | ⟨_, z⟩
      · omega
      · rcases z with rfl | rfl <;> rfl
  | lreturn =>
    obtain ⟨x, r, hs, h'⟩ := pL_s h
    clear h
    subst hs
    obtain ⟨hs, h⟩ := p0_s h'
    subst hs
    have hl1 : el = 1 := of_decide_eq_true hv
    subst hl1
    have hrF := (hoF _ (Option.some.inj h).symm).symm
    have hk : rk = 2 := Nat.eq_of_beq_eq_true hvr
    intro adr H locs lsM hR hS hok hL hn hl hg hx
    have hx1 : in64 x := (okS_c.mp hok).1
    show W _ _ _ _ _ _ _ _ _ _ _ _ _ _ (zQ Z) _
    rw [hQ, hrF]
    have hf := fin (some (.inr (.inl x))) adr H locs hrF hR hS hg (fun u hu => by cases hu; exact hx1)
    rw [hrF] at hf
    rcases hty with q | q | q | q | q
    · omega
    · omega
    · exact W.lret B.1 B.2.1 q.2 hf hS.2.2 hd hlocks
    · omega
    · omega
  | areturn =>
    obtain ⟨x, r, hs, h'⟩ := pR_s h
    clear h
    subst hs
    obtain ⟨hs, h⟩ := p0_s h'
    subst hs
    have hl1 : el = 1 := of_decide_eq_true hv
    subst hl1
    have hrF := (hoF _ (Option.some.inj h).symm).symm
    have hk : rk = 3 := Nat.eq_of_beq_eq_true hvr
    intro adr H locs lsM hR hS hok hL hn hl hg hx
    have hx1 := (okS_c.mp hok).1
    show W _ _ _ _ _ _ _ _ _ _ _ _ _ _ (zQ Z) _
    rw [hQ, hrF]
    have hf := fin (some (.inr (.inr x))) adr H locs hrF hR hS hg (fun u hu => by cases hu; exact hx1)
    rw [hrF] at hf
    rcases hty with q | q | q | q | q
    · omega
    · omega
    · omega
    · obtain ⟨_, nm, q⟩ := q
      refine W.aret B.1 B.2.1 q (Or.inl ⟨nm, rfl⟩) ?_ hf hS.2.2 hd hlocks
      rw [va_rf_mv]
      cases rO adr x with
      | none => exact Or.inl rfl
      | some a => exact Or.inr ⟨a, rfl⟩
    · omega
  | return_ =>
    obtain ⟨hs, h⟩ := p0_s h
    subst hs
    have hl1 : el = 1 := of_decide_eq_true hv
    subst hl1
    have hrF := (hoF _ (Option.some.inj h).symm).symm
    have hk : rk = 0 := Nat.eq_of_beq_eq_true hvr
    intro adr H locs lsM hR hS hok hL hn hl hg hx
    show W _ _ _ _ _ _ _ _ _ _ _ _ _ _ (zQ Z) _
    rw [hQ, hrF]
    have hf := fin none adr H locs hrF hR hS hg (fun u hu => by cases hu)
    rw [hrF] at hf
    rcases hty with q | q | q | q | q
    · exact W.vret B.1 B.2.1 q.2 hf hS.2.2 hd hlocks
    · omega
    · omega
    · omega
    · omega
  | new i =>
    exfalso
    have : ea = [] := by simpa [isRet] using hret
    subst this
    obtain ⟨-, h⟩ := p0_s h
    exact hnt (by rw [← hoF _ (Option.some.inj h).symm])
  | _ => cases hret
end SM
