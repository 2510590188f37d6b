/-! ===== the law's four helpers (printed by wip/whole/help.py) ===== -/
theorem hlpF_s {X : Option (Option sV × sW)} {out : Int} {r : Option sV} {w' : sW} (h : hlpF X out = some (r, w')) : (∃ v w1, X = some (some (iV v), w1) ∧ (kd w1 out = 22 ∧ 0 < ln w1 out) ∧ r = some (iV 0) ∧ w' = sv w1 out 0 v) ∨ (X = some (some (rV (-7)), w') ∧ r = some (iV 1)) := by
  unfold hlpF at h
  split at h
  · rename_i v w1
    obtain ⟨h1, h2⟩ := if_s h
    have := Prod.mk.inj (Option.some.inj h2)
    exact Or.inl ⟨v, w1, rfl, h1, this.1.symm, this.2.symm⟩
  · rename_i x w1
    obtain ⟨h1, h2⟩ := if_s h
    have := Prod.mk.inj (Option.some.inj h2)
    subst h1
    rw [← this.2]
    exact Or.inr ⟨rfl, this.1.symm⟩
  · cases h
theorem ex_inl {d mid : Nat} {M : sM} {w : sW} {as : List sV} (h : pro mid = some (.inl M)) : Ex pro (d + 1) mid w as = runs (Ex pro d) M w as := by simp only [Ex, h]
theorem rn_sg {C : sC} {M : sM} {w : sW} {as : List sV} {r : Option sV × sW} (h : runs C M w as = some r) : sg C M 2000 0 (ent M.1 as) [] w ≠ none := by
  obtain ⟨-, n, hn⟩ := runs_iff.mp h
  cases n with
  | zero => cases hn
  | succ n => intro z; simp only [itr, z] at hn; cases hn
abbrev iC_word : sI := (yX11_word, cX11_word, 4, (some .int), mX11_word, [])
abbrev iH_word : sI := (yL_word, cL_word, 5, (some .int), (0, 0, [], []), [(0, 10, 13, 13)])
theorem thrT_word : mX11_word.2.2.1.all (thrE cX11_word) = true := by decide +kernel
set_option maxHeartbeats 1000000 in
theorem h_word {l : Launch} {K : LC} {inf : Nat → Option sI} {d : Nat} (hKX : ∀ U, KN K U → KX K U) (hl0 : l.stackTraces = false) (hLL : lcL K ≤ 100000) (hinf : inf 111 = some iC_word) (hmok : ∀ mid mi, inf mid = some mi → MOK mi) (hVal : VAL inf iC_word) (hmh : MOK iH_word) (hS1 : SimC l K inf (d + 1) (Ex pro (d + 1))) (hS0 : SimC l K inf d (Ex pro d)) (hd5 : 5 ≤ d)
    {w w' : sW} {x p0 p1 out : Int} {r : Option sV} (h : hlpF (Ex pro (d + 1) 111 w [rV x, iV p0, iV p1]) out = some (r, w')) (adr : Int → Nat) : CTM l K (d + 2) iH_word w adr [rV x, iV p0, iV p1, rV out] r w' := by
  have hmC := hmok _ _ hinf
  have hkd : ∀ y, Ex pro (d + 1) 111 w [rV x, iV p0, iV p1] = some y → kd w x = 9 := fun y hy => by
    rw [ex_inl (M := mX11_word) rfl] at hy
    have h1 := rn_sg hy
    rw [show ent mX11_word.1 [rV x, iV p0, iV p1] = [some (rV x), some (iV p0), some (iV p1), none] from rfl, eX11_word_0] at h1
    by_cases z : kd w x = 9
    · exact z
    · rw [if_neg z] at h1; exact (h1 rfl).elim
  have hlk : Cond.methodLink RL 7 yX11_word ∈ tG := wG_s (h := 1023) (by decide +kernel)
  have him : Cond.instanceMethod yX11_word ∈ tG := wG_s (h := 1024) (by decide +kernel)
  have hsl : Cond.selects yX11_word.cls yX11_word yX11_word ∈ tG := wG_s (h := 1025) (by decide +kernel)
  have hcl : Cond.classLink RL 13 NSx ∈ tG := wG_s (h := 1022) (by decide +kernel)
  have hpn : parN iC_word = some 2 := by decide +kernel
  refine met_ofWH (cc := cL_word) (maxL := 5) (ret := some .int) (hh := [(0, 10, 13, 13)]) hmh.2.2.2.2 (wsM_1 (by simp)) ?_
  intro p e s m args below meth c s₁ Bd hml hv
  obtain ⟨rfl, hKN, hOld, hRW, hok⟩ := hv
  obtain ⟨Z, hZ⟩ : ∃ Z : MZ, Z = (p, l, e, rmD (d + 2) (uc w' - uc w) (us w' - us w), s, m, ([rV x, iV p0, iV p1, rV out].map (mvV adr)).toArray, below, meth, c, MQ below (QcM K w adr r w') ([rV x, iV p0, iV p1, rV out].map (mvV adr)).toArray s (uc w' - uc w) (us w' - us w) (oldA K), cL_word, 5, RL, wsM iH_word) := ⟨_, rfl⟩
  have B : BX Z K := by
    rw [hZ]
    exact ⟨Bd.exec, Bd.bytes, hml, findClass_of_methodNamed Bd.named, atoms_spec (ws := wsM iH_word) Bd.pre, fun w hw => (show w ∈ cdW iH_word :: tG from List.mem_cons_of_mem _ hw), hKN, hOld, by show 1 ≤ d + 2; omega, by show 60 ≤ 60 * (d + 2); omega⟩
  have hrm : RoomD Z (d + 1) := by rw [hZ]; exact ⟨Nat.le_refl _, Nat.le_refl _⟩
  have htab : (zc Z).exceptionTable.toList = [⟨0, 10, 13, 13⟩] := by
    rw [hZ]
    exact vx_table (x := iH_word.1) Bd (atoms_spec (ws := wsM iH_word) Bd.pre _ (by rw [wsM_1 (by simp)]; exact List.mem_cons_self))
  have hC : zC Z = cL_word := by rw [hZ]
  have hn : zn Z = 5 := by rw [hZ]
  have ho : zo Z = RL := by rw [hZ]
  have hlocks : (zh Z).locks = false := by rw [hZ]; exact Bd.notSynchronized
  have hrt : (zh Z).sig.returnType = some .int := by rw [hZ]; exact Bd.returns
  have hxx : KX K (zs Z) := by rw [hZ]; exact hKX _ hKN
  have hl := lv_entry ([rV x, iV p0, iV p1, rV out].map (mvV adr)) (n := 5) (by rw [slot2_len]; exact Nat.le_of_ble_eq_true rfl)
  rw [lg_entry_eq]
  generalize (lg_sl ([rV x, iV p0, iV p1, rV out].map (mvV adr)) ++ List.replicate (5 - (lg_sl ([rV x, iV p0, iV p1, rV out].map (mvV adr))).length) Slot.unset).toArray = lsM at hl ⊢
  rw [← lvs_ent adr (5 - (slot2 [rV x, iV p0, iV p1, rV out]).length)] at hl
  have key : AtM Z K w adr 0 [some (rV x), some (iV p0), some (iV p1), some (rV out), none] [] w := by
    refine sm_aload_n B (i := 3) (tg := 3) rfl (by rw [hC]; decide +kernel) (C := fun _ _ _ => none) (ret := 1) (nn := []) (ax := []) (sw := []) (kr := krN) (k := kst) (o := .inl (1, [some (rV x), some (iV p0), some (iV p1), some (rV out), none], [rV out], w)) rfl (kok ?_)
    refine sm_iconst B (n := 0) (tg := 0) (by unfold in32; omega) (by rw [hC]; decide +kernel) (C := fun _ _ _ => none) (ret := 1) (nn := []) (ax := []) (sw := []) (kr := krN) (k := kst) (o := .inl (2, [some (rV x), some (iV p0), some (iV p1), some (rV out), none], [iV 0, rV out], w)) rfl (kok ?_)
    refine sm_aload_n B (i := 0) (tg := 0) rfl (by rw [hC]; decide +kernel) (C := fun _ _ _ => none) (ret := 1) (nn := []) (ax := []) (sw := []) (kr := krN) (k := kst) (o := .inl (3, [some (rV x), some (iV p0), some (iV p1), some (rV out), none], [rV x, iV 0, rV out], w)) rfl (kok ?_)
    refine sm_iload_n B (i := 1) (tg := 1) rfl (by rw [hC]; decide +kernel) (C := fun _ _ _ => none) (ret := 1) (nn := []) (ax := []) (sw := []) (kr := krN) (k := kst) (o := .inl (4, [some (rV x), some (iV p0), some (iV p1), some (rV out), none], [iV p0, rV x, iV 0, rV out], w)) rfl (kok ?_)
    refine sm_iload_n B (i := 2) (tg := 2) rfl (by rw [hC]; decide +kernel) (C := fun _ _ _ => none) (ret := 1) (nn := []) (ax := []) (sw := []) (kr := krN) (k := kst) (o := .inl (5, [some (rV x), some (iV p0), some (iV p1), some (rV out), none], [iV p1, iV p0, rV x, iV 0, rV out], w)) rfl (kok ?_)
    rcases hlpF_s h with ⟨v, w1, e1, e2, rfl, rfl⟩ | ⟨e1, rfl⟩
    · have hx1 := hS1 _ _ _ _ _ e1 (by simp)
      refine sm_invokevirtual B (i := 7) (mi := iC_word) (inf := inf) (d := d + 1) (tg := 111) (nn := [1, 2]) (ax := [9]) rfl (by rw [hZ]; exact hS1) hrm hinf hmC ⟨8, 1, 2, by omega, rfl, rfl, hpn, rfl⟩ (by rw [ho]; exact hlk) him hsl (by rw [hC]; decide +kernel) (C := Ex pro (d + 1)) (ret := 1) (sw := []) (kr := krN) (k := kst) (o := .inl (8, [some (rV x), some (iV p0), some (iV p1), some (rV out), none], [iV v, iV 0, rV out], w1)) (fun pc ls st w2 z => ?_) ?_ (kok ?_)
      · cases z; rw [hZ]; exact ⟨Nat.le_refl _, Nat.le_refl _⟩
      · show (if kd w x = 9 then cal (Ex pro (d + 1)) 111 1 w [rV x, iV p0, iV p1] [iV 0, rV out] (fun st w => kst 8 [some (rV x), some (iV p0), some (iV p1), some (rV out), none] st w) else none) = _
        rw [if_pos (hkd _ e1)]
        show bI (Ex pro (d + 1) 111 w [rV x, iV p0, iV p1]) _ = _
        rw [e1]
        rfl
      · exact hp_ok B hlocks hrt (by rw [hC]; decide +kernel) (by rw [hC]; decide +kernel) (off := 7) (tg := 17) (by rw [hC]; decide +kernel) (by omega) (by rw [hC]; decide +kernel) (by rw [hC]; decide +kernel) e2 (by rw [hZ])
    · have hx1 := Ex_ext pro (d + 1) _ _ _ _ _ e1
      refine hp_thr B (i := 7) (pc := 5) (la := 2) (ia := 4) (mi := iC_word) (d := d + 1) (as := [iV p0, iV p1]) (rest := [iV 0, rV out]) (xe := ⟨0, 10, 13, 13⟩) rfl hmC rfl hpn (by rw [ho]; exact hlk) him hsl (by rw [hC]; decide +kernel) (hkd _ e1) hrm (Nat.le_of_ble_eq_true rfl) (fun adr' => ?_) (by rw [hZ]; exact ⟨Nat.le_refl _, Nat.le_refl _⟩) hx1 htab (by decide) (by decide) (by rw [ho]; exact hcl) hxx hlocks hrt (by rw [hn]; decide) (Or.inl ⟨by rw [hC]; decide +kernel, rfl⟩) (by rw [hC]; decide +kernel) (by rw [hC]; decide +kernel) (by rw [hZ])
      rw [ex_inl (M := mX11_word) rfl] at e1
      rw [hZ]
      exact thr_sim (mi := iC_word) (rF := (thrown, w')) hKX hl0 hLL hmC rfl rfl hVal (Ex_ext pro d) hS0 hmok thrT_word rfl hd5 e1 rfl adr'
  have := key adr s.heap [] lsM hRW (by rw [hZ]; exact va_S.rf) (fun v hv => by cases hv) (show okL w [some (rV x), some (iV p0), some (iV p1), some (rV out), none] from okL_ent (n := 5) hok) (by rw [hZ]; rfl) (by rw [hZ]; exact hl) (fun r _ => rfl) Ext.rf
  rw [hZ, Nat.sub_self, Nat.sub_self] at this
  exact this
abbrev iC_dense : sI := (yX11_dense, cX11_dense, 5, (some .int), mX11_dense, [])
abbrev iH_dense : sI := (yL_dense, cL_dense, 6, (some .int), (0, 0, [], []), [(0, 12, 15, 13)])
theorem thrT_dense : mX11_dense.2.2.1.all (thrE cX11_dense) = true := by decide +kernel
set_option maxHeartbeats 1000000 in
theorem h_dense {l : Launch} {K : LC} {inf : Nat → Option sI} {d : Nat} (hKX : ∀ U, KN K U → KX K U) (hl0 : l.stackTraces = false) (hLL : lcL K ≤ 100000) (hinf : inf 115 = some iC_dense) (hmok : ∀ mid mi, inf mid = some mi → MOK mi) (hVal : VAL inf iC_dense) (hmh : MOK iH_dense) (hS1 : SimC l K inf (d + 1) (Ex pro (d + 1))) (hS0 : SimC l K inf d (Ex pro d)) (hd5 : 5 ≤ d)
    {w w' : sW} {x p0 p1 p2 out : Int} {r : Option sV} (h : hlpF (Ex pro (d + 1) 115 w [rV x, iV p0, iV p1, iV p2]) out = some (r, w')) (adr : Int → Nat) : CTM l K (d + 2) iH_dense w adr [rV x, iV p0, iV p1, iV p2, rV out] r w' := by
  have hmC := hmok _ _ hinf
  have hkd : ∀ y, Ex pro (d + 1) 115 w [rV x, iV p0, iV p1, iV p2] = some y → kd w x = 9 := fun y hy => by
    rw [ex_inl (M := mX11_dense) rfl] at hy
    have h1 := rn_sg hy
    rw [show ent mX11_dense.1 [rV x, iV p0, iV p1, iV p2] = [some (rV x), some (iV p0), some (iV p1), some (iV p2), none] from rfl, eX11_dense_0] at h1
    by_cases z : kd w x = 9
    · exact z
    · rw [if_neg z] at h1; exact (h1 rfl).elim
  have hlk : Cond.methodLink RL 15 yX11_dense ∈ tG := wG_s (h := 1100) (by decide +kernel)
  have him : Cond.instanceMethod yX11_dense ∈ tG := wG_s (h := 1101) (by decide +kernel)
  have hsl : Cond.selects yX11_dense.cls yX11_dense yX11_dense ∈ tG := wG_s (h := 1102) (by decide +kernel)
  have hcl : Cond.classLink RL 13 NSx ∈ tG := wG_s (h := 1022) (by decide +kernel)
  have hpn : parN iC_dense = some 3 := by decide +kernel
  refine met_ofWH (cc := cL_dense) (maxL := 6) (ret := some .int) (hh := [(0, 12, 15, 13)]) hmh.2.2.2.2 (wsM_1 (by simp)) ?_
  intro p e s m args below meth c s₁ Bd hml hv
  obtain ⟨rfl, hKN, hOld, hRW, hok⟩ := hv
  obtain ⟨Z, hZ⟩ : ∃ Z : MZ, Z = (p, l, e, rmD (d + 2) (uc w' - uc w) (us w' - us w), s, m, ([rV x, iV p0, iV p1, iV p2, rV out].map (mvV adr)).toArray, below, meth, c, MQ below (QcM K w adr r w') ([rV x, iV p0, iV p1, iV p2, rV out].map (mvV adr)).toArray s (uc w' - uc w) (us w' - us w) (oldA K), cL_dense, 6, RL, wsM iH_dense) := ⟨_, rfl⟩
  have B : BX Z K := by
    rw [hZ]
    exact ⟨Bd.exec, Bd.bytes, hml, findClass_of_methodNamed Bd.named, atoms_spec (ws := wsM iH_dense) Bd.pre, fun w hw => (show w ∈ cdW iH_dense :: tG from List.mem_cons_of_mem _ hw), hKN, hOld, by show 1 ≤ d + 2; omega, by show 60 ≤ 60 * (d + 2); omega⟩
  have hrm : RoomD Z (d + 1) := by rw [hZ]; exact ⟨Nat.le_refl _, Nat.le_refl _⟩
  have htab : (zc Z).exceptionTable.toList = [⟨0, 12, 15, 13⟩] := by
    rw [hZ]
    exact vx_table (x := iH_dense.1) Bd (atoms_spec (ws := wsM iH_dense) Bd.pre _ (by rw [wsM_1 (by simp)]; exact List.mem_cons_self))
  have hC : zC Z = cL_dense := by rw [hZ]
  have hn : zn Z = 6 := by rw [hZ]
  have ho : zo Z = RL := by rw [hZ]
  have hlocks : (zh Z).locks = false := by rw [hZ]; exact Bd.notSynchronized
  have hrt : (zh Z).sig.returnType = some .int := by rw [hZ]; exact Bd.returns
  have hxx : KX K (zs Z) := by rw [hZ]; exact hKX _ hKN
  have hl := lv_entry ([rV x, iV p0, iV p1, iV p2, rV out].map (mvV adr)) (n := 6) (by rw [slot2_len]; exact Nat.le_of_ble_eq_true rfl)
  rw [lg_entry_eq]
  generalize (lg_sl ([rV x, iV p0, iV p1, iV p2, rV out].map (mvV adr)) ++ List.replicate (6 - (lg_sl ([rV x, iV p0, iV p1, iV p2, rV out].map (mvV adr))).length) Slot.unset).toArray = lsM at hl ⊢
  rw [← lvs_ent adr (6 - (slot2 [rV x, iV p0, iV p1, iV p2, rV out]).length)] at hl
  have key : AtM Z K w adr 0 [some (rV x), some (iV p0), some (iV p1), some (iV p2), some (rV out), none] [] w := by
    refine sm_aload B (i := 4) (tg := 4) rfl (by rw [hC]; decide +kernel) (C := fun _ _ _ => none) (ret := 1) (nn := []) (ax := []) (sw := []) (kr := krN) (k := kst) (o := .inl (2, [some (rV x), some (iV p0), some (iV p1), some (iV p2), some (rV out), none], [rV out], w)) rfl (kok ?_)
    refine sm_iconst B (n := 0) (tg := 0) (by unfold in32; omega) (by rw [hC]; decide +kernel) (C := fun _ _ _ => none) (ret := 1) (nn := []) (ax := []) (sw := []) (kr := krN) (k := kst) (o := .inl (3, [some (rV x), some (iV p0), some (iV p1), some (iV p2), some (rV out), none], [iV 0, rV out], w)) rfl (kok ?_)
    refine sm_aload_n B (i := 0) (tg := 0) rfl (by rw [hC]; decide +kernel) (C := fun _ _ _ => none) (ret := 1) (nn := []) (ax := []) (sw := []) (kr := krN) (k := kst) (o := .inl (4, [some (rV x), some (iV p0), some (iV p1), some (iV p2), some (rV out), none], [rV x, iV 0, rV out], w)) rfl (kok ?_)
    refine sm_iload_n B (i := 1) (tg := 1) rfl (by rw [hC]; decide +kernel) (C := fun _ _ _ => none) (ret := 1) (nn := []) (ax := []) (sw := []) (kr := krN) (k := kst) (o := .inl (5, [some (rV x), some (iV p0), some (iV p1), some (iV p2), some (rV out), none], [iV p0, rV x, iV 0, rV out], w)) rfl (kok ?_)
    refine sm_iload_n B (i := 2) (tg := 2) rfl (by rw [hC]; decide +kernel) (C := fun _ _ _ => none) (ret := 1) (nn := []) (ax := []) (sw := []) (kr := krN) (k := kst) (o := .inl (6, [some (rV x), some (iV p0), some (iV p1), some (iV p2), some (rV out), none], [iV p1, iV p0, rV x, iV 0, rV out], w)) rfl (kok ?_)
    refine sm_iload_n B (i := 3) (tg := 3) rfl (by rw [hC]; decide +kernel) (C := fun _ _ _ => none) (ret := 1) (nn := []) (ax := []) (sw := []) (kr := krN) (k := kst) (o := .inl (7, [some (rV x), some (iV p0), some (iV p1), some (iV p2), some (rV out), none], [iV p2, iV p1, iV p0, rV x, iV 0, rV out], w)) rfl (kok ?_)
    rcases hlpF_s h with ⟨v, w1, e1, e2, rfl, rfl⟩ | ⟨e1, rfl⟩
    · have hx1 := hS1 _ _ _ _ _ e1 (by simp)
      refine sm_invokevirtual B (i := 15) (mi := iC_dense) (inf := inf) (d := d + 1) (tg := 115) (nn := [1, 3]) (ax := [9]) rfl (by rw [hZ]; exact hS1) hrm hinf hmC ⟨8, 1, 3, by omega, rfl, rfl, hpn, rfl⟩ (by rw [ho]; exact hlk) him hsl (by rw [hC]; decide +kernel) (C := Ex pro (d + 1)) (ret := 1) (sw := []) (kr := krN) (k := kst) (o := .inl (10, [some (rV x), some (iV p0), some (iV p1), some (iV p2), some (rV out), none], [iV v, iV 0, rV out], w1)) (fun pc ls st w2 z => ?_) ?_ (kok ?_)
      · cases z; rw [hZ]; exact ⟨Nat.le_refl _, Nat.le_refl _⟩
      · show (if kd w x = 9 then cal (Ex pro (d + 1)) 115 1 w [rV x, iV p0, iV p1, iV p2] [iV 0, rV out] (fun st w => kst 10 [some (rV x), some (iV p0), some (iV p1), some (iV p2), some (rV out), none] st w) else none) = _
        rw [if_pos (hkd _ e1)]
        show bI (Ex pro (d + 1) 115 w [rV x, iV p0, iV p1, iV p2]) _ = _
        rw [e1]
        rfl
      · exact hp_ok B hlocks hrt (by rw [hC]; decide +kernel) (by rw [hC]; decide +kernel) (off := 7) (tg := 19) (by rw [hC]; decide +kernel) (by omega) (by rw [hC]; decide +kernel) (by rw [hC]; decide +kernel) e2 (by rw [hZ])
    · have hx1 := Ex_ext pro (d + 1) _ _ _ _ _ e1
      refine hp_thr B (i := 15) (pc := 7) (la := 2) (ia := 5) (mi := iC_dense) (d := d + 1) (as := [iV p0, iV p1, iV p2]) (rest := [iV 0, rV out]) (xe := ⟨0, 12, 15, 13⟩) rfl hmC rfl hpn (by rw [ho]; exact hlk) him hsl (by rw [hC]; decide +kernel) (hkd _ e1) hrm (Nat.le_of_ble_eq_true rfl) (fun adr' => ?_) (by rw [hZ]; exact ⟨Nat.le_refl _, Nat.le_refl _⟩) hx1 htab (by decide) (by decide) (by rw [ho]; exact hcl) hxx hlocks hrt (by rw [hn]; decide) (Or.inl ⟨by rw [hC]; decide +kernel, rfl⟩) (by rw [hC]; decide +kernel) (by rw [hC]; decide +kernel) (by rw [hZ])
      rw [ex_inl (M := mX11_dense) rfl] at e1
      rw [hZ]
      exact thr_sim (mi := iC_dense) (rF := (thrown, w')) hKX hl0 hLL hmC rfl rfl hVal (Ex_ext pro d) hS0 hmok thrT_dense rfl hd5 e1 rfl adr'
  have := key adr s.heap [] lsM hRW (by rw [hZ]; exact va_S.rf) (fun v hv => by cases hv) (show okL w [some (rV x), some (iV p0), some (iV p1), some (iV p2), some (rV out), none] from okL_ent (n := 6) hok) (by rw [hZ]; rfl) (by rw [hZ]; exact hl) (fun r _ => rfl) Ext.rf
  rw [hZ, Nat.sub_self, Nat.sub_self] at this
  exact this
abbrev iC_load : sI := (yX11_load, cX11_load, 3, (some .int), mX11_load, [])
abbrev iH_load : sI := (yL_load, cL_load, 4, (some .int), (0, 0, [], []), [(0, 9, 12, 13)])
theorem thrT_load : mX11_load.2.2.1.all (thrE cX11_load) = true := by decide +kernel
set_option maxHeartbeats 1000000 in
theorem h_load {l : Launch} {K : LC} {inf : Nat → Option sI} {d : Nat} (hKX : ∀ U, KN K U → KX K U) (hl0 : l.stackTraces = false) (hLL : lcL K ≤ 100000) (hinf : inf 116 = some iC_load) (hmok : ∀ mid mi, inf mid = some mi → MOK mi) (hVal : VAL inf iC_load) (hmh : MOK iH_load) (hS1 : SimC l K inf (d + 1) (Ex pro (d + 1))) (hS0 : SimC l K inf d (Ex pro d)) (hd5 : 5 ≤ d)
    {w w' : sW} {x p0 out : Int} {r : Option sV} (h : hlpF (Ex pro (d + 1) 116 w [rV x, iV p0]) out = some (r, w')) (adr : Int → Nat) : CTM l K (d + 2) iH_load w adr [rV x, iV p0, rV out] r w' := by
  have hmC := hmok _ _ hinf
  have hkd : ∀ y, Ex pro (d + 1) 116 w [rV x, iV p0] = some y → kd w x = 9 := fun y hy => by
    rw [ex_inl (M := mX11_load) rfl] at hy
    have h1 := rn_sg hy
    rw [show ent mX11_load.1 [rV x, iV p0] = [some (rV x), some (iV p0), none] from rfl, eX11_load_0] at h1
    by_cases z : kd w x = 9
    · exact z
    · rw [if_neg z] at h1; exact (h1 rfl).elim
  have hlk : Cond.methodLink RL 19 yX11_load ∈ tG := wG_s (h := 1113) (by decide +kernel)
  have him : Cond.instanceMethod yX11_load ∈ tG := wG_s (h := 1114) (by decide +kernel)
  have hsl : Cond.selects yX11_load.cls yX11_load yX11_load ∈ tG := wG_s (h := 1115) (by decide +kernel)
  have hcl : Cond.classLink RL 13 NSx ∈ tG := wG_s (h := 1022) (by decide +kernel)
  have hpn : parN iC_load = some 1 := by decide +kernel
  refine met_ofWH (cc := cL_load) (maxL := 4) (ret := some .int) (hh := [(0, 9, 12, 13)]) hmh.2.2.2.2 (wsM_1 (by simp)) ?_
  intro p e s m args below meth c s₁ Bd hml hv
  obtain ⟨rfl, hKN, hOld, hRW, hok⟩ := hv
  obtain ⟨Z, hZ⟩ : ∃ Z : MZ, Z = (p, l, e, rmD (d + 2) (uc w' - uc w) (us w' - us w), s, m, ([rV x, iV p0, rV out].map (mvV adr)).toArray, below, meth, c, MQ below (QcM K w adr r w') ([rV x, iV p0, rV out].map (mvV adr)).toArray s (uc w' - uc w) (us w' - us w) (oldA K), cL_load, 4, RL, wsM iH_load) := ⟨_, rfl⟩
  have B : BX Z K := by
    rw [hZ]
    exact ⟨Bd.exec, Bd.bytes, hml, findClass_of_methodNamed Bd.named, atoms_spec (ws := wsM iH_load) Bd.pre, fun w hw => (show w ∈ cdW iH_load :: tG from List.mem_cons_of_mem _ hw), hKN, hOld, by show 1 ≤ d + 2; omega, by show 60 ≤ 60 * (d + 2); omega⟩
  have hrm : RoomD Z (d + 1) := by rw [hZ]; exact ⟨Nat.le_refl _, Nat.le_refl _⟩
  have htab : (zc Z).exceptionTable.toList = [⟨0, 9, 12, 13⟩] := by
    rw [hZ]
    exact vx_table (x := iH_load.1) Bd (atoms_spec (ws := wsM iH_load) Bd.pre _ (by rw [wsM_1 (by simp)]; exact List.mem_cons_self))
  have hC : zC Z = cL_load := by rw [hZ]
  have hn : zn Z = 4 := by rw [hZ]
  have ho : zo Z = RL := by rw [hZ]
  have hlocks : (zh Z).locks = false := by rw [hZ]; exact Bd.notSynchronized
  have hrt : (zh Z).sig.returnType = some .int := by rw [hZ]; exact Bd.returns
  have hxx : KX K (zs Z) := by rw [hZ]; exact hKX _ hKN
  have hl := lv_entry ([rV x, iV p0, rV out].map (mvV adr)) (n := 4) (by rw [slot2_len]; exact Nat.le_of_ble_eq_true rfl)
  rw [lg_entry_eq]
  generalize (lg_sl ([rV x, iV p0, rV out].map (mvV adr)) ++ List.replicate (4 - (lg_sl ([rV x, iV p0, rV out].map (mvV adr))).length) Slot.unset).toArray = lsM at hl ⊢
  rw [← lvs_ent adr (4 - (slot2 [rV x, iV p0, rV out]).length)] at hl
  have key : AtM Z K w adr 0 [some (rV x), some (iV p0), some (rV out), none] [] w := by
    refine sm_aload_n B (i := 2) (tg := 2) rfl (by rw [hC]; decide +kernel) (C := fun _ _ _ => none) (ret := 1) (nn := []) (ax := []) (sw := []) (kr := krN) (k := kst) (o := .inl (1, [some (rV x), some (iV p0), some (rV out), none], [rV out], w)) rfl (kok ?_)
    refine sm_iconst B (n := 0) (tg := 0) (by unfold in32; omega) (by rw [hC]; decide +kernel) (C := fun _ _ _ => none) (ret := 1) (nn := []) (ax := []) (sw := []) (kr := krN) (k := kst) (o := .inl (2, [some (rV x), some (iV p0), some (rV out), none], [iV 0, rV out], w)) rfl (kok ?_)
    refine sm_aload_n B (i := 0) (tg := 0) rfl (by rw [hC]; decide +kernel) (C := fun _ _ _ => none) (ret := 1) (nn := []) (ax := []) (sw := []) (kr := krN) (k := kst) (o := .inl (3, [some (rV x), some (iV p0), some (rV out), none], [rV x, iV 0, rV out], w)) rfl (kok ?_)
    refine sm_iload_n B (i := 1) (tg := 1) rfl (by rw [hC]; decide +kernel) (C := fun _ _ _ => none) (ret := 1) (nn := []) (ax := []) (sw := []) (kr := krN) (k := kst) (o := .inl (4, [some (rV x), some (iV p0), some (rV out), none], [iV p0, rV x, iV 0, rV out], w)) rfl (kok ?_)
    rcases hlpF_s h with ⟨v, w1, e1, e2, rfl, rfl⟩ | ⟨e1, rfl⟩
    · have hx1 := hS1 _ _ _ _ _ e1 (by simp)
      refine sm_invokevirtual B (i := 19) (mi := iC_load) (inf := inf) (d := d + 1) (tg := 116) (nn := [1, 1]) (ax := [9]) rfl (by rw [hZ]; exact hS1) hrm hinf hmC ⟨8, 1, 1, by omega, rfl, rfl, hpn, rfl⟩ (by rw [ho]; exact hlk) him hsl (by rw [hC]; decide +kernel) (C := Ex pro (d + 1)) (ret := 1) (sw := []) (kr := krN) (k := kst) (o := .inl (7, [some (rV x), some (iV p0), some (rV out), none], [iV v, iV 0, rV out], w1)) (fun pc ls st w2 z => ?_) ?_ (kok ?_)
      · cases z; rw [hZ]; exact ⟨Nat.le_refl _, Nat.le_refl _⟩
      · show (if kd w x = 9 then cal (Ex pro (d + 1)) 116 1 w [rV x, iV p0] [iV 0, rV out] (fun st w => kst 7 [some (rV x), some (iV p0), some (rV out), none] st w) else none) = _
        rw [if_pos (hkd _ e1)]
        show bI (Ex pro (d + 1) 116 w [rV x, iV p0]) _ = _
        rw [e1]
        rfl
      · exact hp_ok B hlocks hrt (by rw [hC]; decide +kernel) (by rw [hC]; decide +kernel) (off := 6) (tg := 15) (by rw [hC]; decide +kernel) (by omega) (by rw [hC]; decide +kernel) (by rw [hC]; decide +kernel) e2 (by rw [hZ])
    · have hx1 := Ex_ext pro (d + 1) _ _ _ _ _ e1
      refine hp_thr B (i := 19) (pc := 4) (la := 1) (ia := 3) (mi := iC_load) (d := d + 1) (as := [iV p0]) (rest := [iV 0, rV out]) (xe := ⟨0, 9, 12, 13⟩) rfl hmC rfl hpn (by rw [ho]; exact hlk) him hsl (by rw [hC]; decide +kernel) (hkd _ e1) hrm (Nat.le_of_ble_eq_true rfl) (fun adr' => ?_) (by rw [hZ]; exact ⟨Nat.le_refl _, Nat.le_refl _⟩) hx1 htab (by decide) (by decide) (by rw [ho]; exact hcl) hxx hlocks hrt (by rw [hn]; decide) (Or.inr ⟨3, rfl, by rw [hC]; decide +kernel, rfl⟩) (by rw [hC]; decide +kernel) (by rw [hC]; decide +kernel) (by rw [hZ])
      rw [ex_inl (M := mX11_load) rfl] at e1
      rw [hZ]
      exact thr_sim (mi := iC_load) (rF := (thrown, w')) hKX hl0 hLL hmC rfl rfl hVal (Ex_ext pro d) hS0 hmok thrT_load rfl hd5 e1 rfl adr'
  have := key adr s.heap [] lsM hRW (by rw [hZ]; exact va_S.rf) (fun v hv => by cases hv) (show okL w [some (rV x), some (iV p0), some (rV out), none] from okL_ent (n := 4) hok) (by rw [hZ]; rfl) (by rw [hZ]; exact hl) (fun r _ => rfl) Ext.rf
  rw [hZ, Nat.sub_self, Nat.sub_self] at this
  exact this
abbrev iC_centre : sI := (yX11_centre, cX11_centre, 7, (some .int), mX11_centre, [])
abbrev iH_centre : sI := (yL_centre, cL_centre, 5, (some .int), (0, 0, [], []), [(0, 10, 13, 13)])
theorem thrT_centre : mX11_centre.2.2.1.all (thrE cX11_centre) = true := by decide +kernel
set_option maxHeartbeats 1000000 in
theorem h_centre {l : Launch} {K : LC} {inf : Nat → Option sI} {d : Nat} (hKX : ∀ U, KN K U → KX K U) (hl0 : l.stackTraces = false) (hLL : lcL K ≤ 100000) (hinf : inf 117 = some iC_centre) (hmok : ∀ mid mi, inf mid = some mi → MOK mi) (hVal : VAL inf iC_centre) (hmh : MOK iH_centre) (hS1 : SimC l K inf (d + 1) (Ex pro (d + 1))) (hS0 : SimC l K inf d (Ex pro d)) (hd5 : 5 ≤ d)
    {w w' : sW} {x p0 p1 out : Int} {r : Option sV} (h : hlpF (Ex pro (d + 1) 117 w [rV x, iV p0, iV p1]) out = some (r, w')) (adr : Int → Nat) : CTM l K (d + 2) iH_centre w adr [rV x, iV p0, iV p1, rV out] r w' := by
  have hmC := hmok _ _ hinf
  have hkd : ∀ y, Ex pro (d + 1) 117 w [rV x, iV p0, iV p1] = some y → kd w x = 9 := fun y hy => by
    rw [ex_inl (M := mX11_centre) rfl] at hy
    have h1 := rn_sg hy
    rw [show ent mX11_centre.1 [rV x, iV p0, iV p1] = [some (rV x), some (iV p0), some (iV p1), none, none, none, none] from rfl, eX11_centre_0] at h1
    by_cases z : kd w x = 9
    · exact z
    · rw [if_neg z] at h1; exact (h1 rfl).elim
  have hlk : Cond.methodLink RL 23 yX11_centre ∈ tG := wG_s (h := 1121) (by decide +kernel)
  have him : Cond.instanceMethod yX11_centre ∈ tG := wG_s (h := 1122) (by decide +kernel)
  have hsl : Cond.selects yX11_centre.cls yX11_centre yX11_centre ∈ tG := wG_s (h := 1123) (by decide +kernel)
  have hcl : Cond.classLink RL 13 NSx ∈ tG := wG_s (h := 1022) (by decide +kernel)
  have hpn : parN iC_centre = some 2 := by decide +kernel
  refine met_ofWH (cc := cL_centre) (maxL := 5) (ret := some .int) (hh := [(0, 10, 13, 13)]) hmh.2.2.2.2 (wsM_1 (by simp)) ?_
  intro p e s m args below meth c s₁ Bd hml hv
  obtain ⟨rfl, hKN, hOld, hRW, hok⟩ := hv
  obtain ⟨Z, hZ⟩ : ∃ Z : MZ, Z = (p, l, e, rmD (d + 2) (uc w' - uc w) (us w' - us w), s, m, ([rV x, iV p0, iV p1, rV out].map (mvV adr)).toArray, below, meth, c, MQ below (QcM K w adr r w') ([rV x, iV p0, iV p1, rV out].map (mvV adr)).toArray s (uc w' - uc w) (us w' - us w) (oldA K), cL_centre, 5, RL, wsM iH_centre) := ⟨_, rfl⟩
  have B : BX Z K := by
    rw [hZ]
    exact ⟨Bd.exec, Bd.bytes, hml, findClass_of_methodNamed Bd.named, atoms_spec (ws := wsM iH_centre) Bd.pre, fun w hw => (show w ∈ cdW iH_centre :: tG from List.mem_cons_of_mem _ hw), hKN, hOld, by show 1 ≤ d + 2; omega, by show 60 ≤ 60 * (d + 2); omega⟩
  have hrm : RoomD Z (d + 1) := by rw [hZ]; exact ⟨Nat.le_refl _, Nat.le_refl _⟩
  have htab : (zc Z).exceptionTable.toList = [⟨0, 10, 13, 13⟩] := by
    rw [hZ]
    exact vx_table (x := iH_centre.1) Bd (atoms_spec (ws := wsM iH_centre) Bd.pre _ (by rw [wsM_1 (by simp)]; exact List.mem_cons_self))
  have hC : zC Z = cL_centre := by rw [hZ]
  have hn : zn Z = 5 := by rw [hZ]
  have ho : zo Z = RL := by rw [hZ]
  have hlocks : (zh Z).locks = false := by rw [hZ]; exact Bd.notSynchronized
  have hrt : (zh Z).sig.returnType = some .int := by rw [hZ]; exact Bd.returns
  have hxx : KX K (zs Z) := by rw [hZ]; exact hKX _ hKN
  have hl := lv_entry ([rV x, iV p0, iV p1, rV out].map (mvV adr)) (n := 5) (by rw [slot2_len]; exact Nat.le_of_ble_eq_true rfl)
  rw [lg_entry_eq]
  generalize (lg_sl ([rV x, iV p0, iV p1, rV out].map (mvV adr)) ++ List.replicate (5 - (lg_sl ([rV x, iV p0, iV p1, rV out].map (mvV adr))).length) Slot.unset).toArray = lsM at hl ⊢
  rw [← lvs_ent adr (5 - (slot2 [rV x, iV p0, iV p1, rV out]).length)] at hl
  have key : AtM Z K w adr 0 [some (rV x), some (iV p0), some (iV p1), some (rV out), none] [] w := by
    refine sm_aload_n B (i := 3) (tg := 3) rfl (by rw [hC]; decide +kernel) (C := fun _ _ _ => none) (ret := 1) (nn := []) (ax := []) (sw := []) (kr := krN) (k := kst) (o := .inl (1, [some (rV x), some (iV p0), some (iV p1), some (rV out), none], [rV out], w)) rfl (kok ?_)
    refine sm_iconst B (n := 0) (tg := 0) (by unfold in32; omega) (by rw [hC]; decide +kernel) (C := fun _ _ _ => none) (ret := 1) (nn := []) (ax := []) (sw := []) (kr := krN) (k := kst) (o := .inl (2, [some (rV x), some (iV p0), some (iV p1), some (rV out), none], [iV 0, rV out], w)) rfl (kok ?_)
    refine sm_aload_n B (i := 0) (tg := 0) rfl (by rw [hC]; decide +kernel) (C := fun _ _ _ => none) (ret := 1) (nn := []) (ax := []) (sw := []) (kr := krN) (k := kst) (o := .inl (3, [some (rV x), some (iV p0), some (iV p1), some (rV out), none], [rV x, iV 0, rV out], w)) rfl (kok ?_)
    refine sm_iload_n B (i := 1) (tg := 1) rfl (by rw [hC]; decide +kernel) (C := fun _ _ _ => none) (ret := 1) (nn := []) (ax := []) (sw := []) (kr := krN) (k := kst) (o := .inl (4, [some (rV x), some (iV p0), some (iV p1), some (rV out), none], [iV p0, rV x, iV 0, rV out], w)) rfl (kok ?_)
    refine sm_iload_n B (i := 2) (tg := 2) rfl (by rw [hC]; decide +kernel) (C := fun _ _ _ => none) (ret := 1) (nn := []) (ax := []) (sw := []) (kr := krN) (k := kst) (o := .inl (5, [some (rV x), some (iV p0), some (iV p1), some (rV out), none], [iV p1, iV p0, rV x, iV 0, rV out], w)) rfl (kok ?_)
    rcases hlpF_s h with ⟨v, w1, e1, e2, rfl, rfl⟩ | ⟨e1, rfl⟩
    · have hx1 := hS1 _ _ _ _ _ e1 (by simp)
      refine sm_invokevirtual B (i := 23) (mi := iC_centre) (inf := inf) (d := d + 1) (tg := 117) (nn := [1, 2]) (ax := [9]) rfl (by rw [hZ]; exact hS1) hrm hinf hmC ⟨8, 1, 2, by omega, rfl, rfl, hpn, rfl⟩ (by rw [ho]; exact hlk) him hsl (by rw [hC]; decide +kernel) (C := Ex pro (d + 1)) (ret := 1) (sw := []) (kr := krN) (k := kst) (o := .inl (8, [some (rV x), some (iV p0), some (iV p1), some (rV out), none], [iV v, iV 0, rV out], w1)) (fun pc ls st w2 z => ?_) ?_ (kok ?_)
      · cases z; rw [hZ]; exact ⟨Nat.le_refl _, Nat.le_refl _⟩
      · show (if kd w x = 9 then cal (Ex pro (d + 1)) 117 1 w [rV x, iV p0, iV p1] [iV 0, rV out] (fun st w => kst 8 [some (rV x), some (iV p0), some (iV p1), some (rV out), none] st w) else none) = _
        rw [if_pos (hkd _ e1)]
        show bI (Ex pro (d + 1) 117 w [rV x, iV p0, iV p1]) _ = _
        rw [e1]
        rfl
      · exact hp_ok B hlocks hrt (by rw [hC]; decide +kernel) (by rw [hC]; decide +kernel) (off := 7) (tg := 17) (by rw [hC]; decide +kernel) (by omega) (by rw [hC]; decide +kernel) (by rw [hC]; decide +kernel) e2 (by rw [hZ])
    · have hx1 := Ex_ext pro (d + 1) _ _ _ _ _ e1
      refine hp_thr B (i := 23) (pc := 5) (la := 2) (ia := 4) (mi := iC_centre) (d := d + 1) (as := [iV p0, iV p1]) (rest := [iV 0, rV out]) (xe := ⟨0, 10, 13, 13⟩) rfl hmC rfl hpn (by rw [ho]; exact hlk) him hsl (by rw [hC]; decide +kernel) (hkd _ e1) hrm (Nat.le_of_ble_eq_true rfl) (fun adr' => ?_) (by rw [hZ]; exact ⟨Nat.le_refl _, Nat.le_refl _⟩) hx1 htab (by decide) (by decide) (by rw [ho]; exact hcl) hxx hlocks hrt (by rw [hn]; decide) (Or.inl ⟨by rw [hC]; decide +kernel, rfl⟩) (by rw [hC]; decide +kernel) (by rw [hC]; decide +kernel) (by rw [hZ])
      rw [ex_inl (M := mX11_centre) rfl] at e1
      rw [hZ]
      exact thr_sim (mi := iC_centre) (rF := (thrown, w')) hKX hl0 hLL hmC rfl rfl hVal (Ex_ext pro d) hS0 hmok thrT_centre rfl hd5 e1 rfl adr'
  have := key adr s.heap [] lsM hRW (by rw [hZ]; exact va_S.rf) (fun v hv => by cases hv) (show okL w [some (rV x), some (iV p0), some (iV p1), some (rV out), none] from okL_ent (n := 5) hok) (by rw [hZ]; rfl) (by rw [hZ]; exact hl) (fun r _ => rfl) Ext.rf
  rw [hZ, Nat.sub_self, Nat.sub_self] at this
  exact this
