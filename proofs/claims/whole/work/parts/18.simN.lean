/-! ===== a method by its run; all methods by their depth ===== -/
theorem slot2_len (adr : Int → Nat) : ∀ as : List sV, (lg_sl (as.map (mvV adr))).length = (slot2 as).length
  | [] => rfl
  | .inl x :: r => by
    have := slot2_len adr r
    simp [slot2, lg_sl, mvV, Value.category] at this ⊢
    exact this
  | .inr (.inl x) :: r => by
    have := slot2_len adr r
    simp [slot2, lg_sl, mvV, Value.category] at this ⊢
    exact this
  | .inr (.inr x) :: r => by
    have := slot2_len adr r
    by_cases h : x = 0
    · simp [slot2, lg_sl, mvV, Value.category, h] at this ⊢
      exact this
    · simp [slot2, lg_sl, mvV, Value.category, h] at this ⊢
      exact this
theorem lvs_rep (adr : Int → Nat) : ∀ (n i : Nat), lvs adr (List.replicate n none) i = []
  | 0, i => rfl
  | n + 1, i => by
    rw [List.replicate_succ]
    exact lvs_rep adr n (i + 1)
theorem lvs_ent (adr : Int → Nat) (n : Nat) : ∀ (as : List sV) (i : Nat), lvs adr (slot2 as ++ List.replicate n none) i = lv_args i (as.map (mvV adr))
  | [], i => lvs_rep adr n i
  | .inl x :: r, i => by
    have := lvs_ent adr n r (i + 1)
    simp only [slot2, List.cons_append, lvs, List.map_cons, lv_args, mvV, Value.category] at this ⊢
    rw [this]
    rfl
  | .inr (.inl x) :: r, i => by
    have := lvs_ent adr n r (i + 2)
    simp only [slot2, List.cons_append, lvs, List.map_cons, lv_args, mvV, Value.category] at this ⊢
    rw [this]
    rfl
  | .inr (.inr x) :: r, i => by
    have := lvs_ent adr n r (i + 1)
    by_cases h : x = 0
    · simp only [slot2, List.cons_append, lvs, List.map_cons, lv_args, mvV, h, if_true, Value.category] at this ⊢
      rw [this]
      rfl
    · simp only [slot2, List.cons_append, lvs, List.map_cons, lv_args, mvV, h, if_false, Value.category] at this ⊢
      rw [this]
      rfl
theorem ent_len {n : Nat} {as : List sV} (h : (slot2 as).length ≤ n) : (ent n as).length = n := by
  unfold ent
  simp
  omega
theorem slot2_mem : ∀ (as : List sV) (v : sV), some v ∈ slot2 as → v ∈ as
  | [], v, h => by simp [slot2] at h
  | .inl x :: r, v, h => by
    simp only [slot2, List.mem_cons, Option.some.injEq] at h
    rcases h with h | h
    · rw [h]; exact List.mem_cons_self
    · exact List.mem_cons_of_mem _ (slot2_mem r v h)
  | .inr (.inl x) :: r, v, h => by
    simp only [slot2, List.mem_cons, Option.some.injEq] at h
    rcases h with h | h | h
    · rw [h]; exact List.mem_cons_self
    · cases h
    · exact List.mem_cons_of_mem _ (slot2_mem r v h)
  | .inr (.inr x) :: r, v, h => by
    simp only [slot2, List.mem_cons, Option.some.injEq] at h
    rcases h with h | h
    · rw [h]; exact List.mem_cons_self
    · exact List.mem_cons_of_mem _ (slot2_mem r v h)
theorem okL_ent {w : sW} {n : Nat} {as : List sV} (h : okS w as) : okL w (ent n as) := by
  intro v hv
  rcases List.mem_append.mp hv with q | q
  · exact h v (slot2_mem as v q)
  · have := (List.mem_replicate.mp q).2
    cases this
set_option maxHeartbeats 1000000 in
theorem met_sim {l : Launch} {K : LC} {inf : Nat → Option sI} {mi : sI} {C : sC} {d : Nat} {w : sW} {as : List sV} {rF : Option sV × sW} (hLL : lcL K ≤ 100000) (hm : MOK mi) (hh0 : mi.2.2.2.2.2 = []) (hVal : VAL inf mi) (hCe : ExtC C) (hC : SimC l K inf d C) (hmok : ∀ mid mi, inf mid = some mi → MOK mi) (h : runs C mi.2.2.2.2.1 w as = some rF) (hnt : rF.1 ≠ thrown) (adr : Int → Nat) : CTM l K (d + 1) mi w adr as rF.1 rF.2 := by
  obtain ⟨hlen, n, hn⟩ := runs_iff.mp h
  have hM1 := hVal.2.2.2
  rw [hM1] at hlen hn
  refine Met.ofW (cc := mi.2.1) (maxL := mi.2.2.1) (ret := mi.2.2.2.1) hm.2.2.2.2 (wsM_0 hh0) ?_
  intro p e s m args below meth c s₁ Bd hml hv
  obtain ⟨rfl, hKN, hOld, hRW, hok⟩ := hv
  obtain ⟨Z, hZ⟩ : ∃ Z : MZ, Z = (p, l, e, rmD (d + 1) (uc rF.2 - uc w) (us rF.2 - us w), s, m, (as.map (mvV adr)).toArray, below, meth, c, MQ below (QcM K w adr rF.1 rF.2) (as.map (mvV adr)).toArray s (uc rF.2 - uc w) (us rF.2 - us w) (oldA K), mi.2.1, mi.2.2.1, mi.1.cls, wsM mi) := ⟨_, rfl⟩
  have B : BX Z K := by
    rw [hZ]
    exact ⟨Bd.exec, Bd.bytes, hml, findClass_of_methodNamed Bd.named, atoms_spec (ws := wsM mi) Bd.pre, fun w hw => List.mem_cons_of_mem _ hw, hKN, hOld, by show 1 ≤ d + 1; omega, by show 60 ≤ 60 * (d + 1); omega⟩
  have hrm : RoomD Z d := by rw [hZ]; exact ⟨Nat.le_refl _, Nat.le_refl _⟩
  have hl := lv_entry (as.map (mvV adr)) (n := mi.2.2.1) (by rw [slot2_len]; exact hlen)
  rw [lg_entry_eq]
  generalize (lg_sl (as.map (mvV adr)) ++ List.replicate (mi.2.2.1 - (lg_sl (as.map (mvV adr))).length) Slot.unset).toArray = lsM at hl ⊢
  rw [← lvs_ent adr (mi.2.2.1 - (slot2 as).length)] at hl
  have hrt : meth.sig.returnType = mi.2.2.2.1 := Bd.returns
  have key := itr_sim (Z := Z) (K := K) (w0 := w) (adr0 := adr) (C := C) (d := d) (inf := inf) (mi := mi) (rF := rF) B (by rw [hZ]; exact (name_of_methodNamed Bd.named Bd.method).1) (by rw [hZ]) (by rw [hZ]) (by rw [hZ]) hLL hVal hCe (by rw [hZ]; exact hC) hrm hmok (by rw [hZ]; exact ⟨Nat.le_refl _, Nat.le_refl _⟩)
    (ret_ok B (by rw [hZ]; exact Bd.notSynchronized) (by rw [hZ]; exact hrt) hVal hnt (by rw [hZ])) n _ hn
  have := key adr s.heap [] lsM hRW (by rw [hZ]; exact va_S.rf) (fun v hv => by cases hv) (okL_ent hok) (by rw [hZ]; exact ent_len hlen) (by rw [hZ]; exact hl) (fun r _ => rfl) Ext.rf
  rw [hZ, Nat.sub_self, Nat.sub_self] at this
  exact this
/-- the law's helpers: they call a method of the class, and answer 1 if it throws -/
def hlpF (x : Option (Option sV × sW)) (out : Int) : Option (Option sV × sW) := match x with
  | some (some (.inl v), w') => if kd w' out = 22 ∧ 0 < ln w' out then some (some (.inl 0), sv w' out 0 v) else none
  | some (some (.inr (.inr r)), w') => if r = -7 then some (some (.inl 1), w') else none
  | _ => none
def hlpA (q : Nat) (bs : List sV) : Bool := match bs with
  | [.inr (.inr _), .inl _] => Nat.beq q 116
  | [.inr (.inr _), .inl _, .inl _] => Nat.beq q 111 || Nat.beq q 117
  | [.inr (.inr _), .inl _, .inl _, .inl _] => Nat.beq q 115
  | _ => false
def hlp (C : sC) (q : Nat) (w : sW) (as : List sV) : Option (Option sV × sW) := match as.reverse with
  | .inr (.inr out) :: ras => bif hlpA q ras.reverse then hlpF (C q w ras.reverse) out else none
  | _ => none
noncomputable def Ex (P : Nat → Option (sM ⊕ Nat)) : Nat → sC
  | 0 => fun _ _ _ => none
  | d + 1 => fun mid w as => match P mid with
    | some (.inl M) => runs (Ex P d) M w as
    | some (.inr q) => hlp (Ex P d) q w as
    | none => none
theorem hlp_ext {C : sC} (hC : ExtC C) {q : Nat} {w w' : sW} {as : List sV} {r : Option sV} (h : hlp C q w as = some (r, w')) : Ext w w' := by
  unfold hlp at h
  split at h
  · rename_i out ras e0
    cases hb : hlpA q ras.reverse with
    | false => rw [hb] at h; cases h
    | true =>
      rw [hb] at h
      simp only [cond_true] at h
      unfold hlpF at h
      split at h
      · rename_i e
        have hx := hC _ _ _ _ _ e
        obtain ⟨_, h⟩ := if_s h
        cases h
        exact hx.tr Ext.sv
      · rename_i e
        have hx := hC _ _ _ _ _ e
        obtain ⟨_, h⟩ := if_s h
        cases h
        exact hx
      · cases h
  · cases h
theorem Ex_ext (P : Nat → Option (sM ⊕ Nat)) : ∀ d, ExtC (Ex P d)
  | 0 => fun mid w as r w' h => by simp [Ex] at h
  | d + 1 => fun mid w as r w' h => by
    simp only [Ex] at h
    split at h
    · exact runs_ext (Ex_ext P d) h
    · exact hlp_ext (Ex_ext P d) h
    · cases h
theorem Ex_sim {l : Launch} {K : LC} {inf : Nat → Option sI} {P : Nat → Option (sM ⊕ Nat)} (hLL : lcL K ≤ 100000) (hmok : ∀ mid mi, inf mid = some mi → MOK mi) (hP : ∀ mid M, P mid = some (.inl M) → ∀ mi, inf mid = some mi → mi.2.2.2.2.1 = M ∧ mi.2.2.2.2.2 = [] ∧ VAL inf mi)
    (hH : ∀ d, SimC l K inf d (Ex P d) → ∀ mid q, P mid = some (.inr q) → ∀ w as r w', hlp (Ex P d) q w as = some (r, w') → ∀ mi, inf mid = some mi → ∀ adr, CTM l K (d + 1) mi w adr as r w') : ∀ d, SimC l K inf d (Ex P d)
  | 0 => fun mid w as r w' h => by simp [Ex] at h
  | d + 1 => fun mid w as r w' h hnt => by
    refine ⟨Ex_ext P (d + 1) _ _ _ _ _ h, fun mi hinf adr => ?_⟩
    simp only [Ex] at h
    split at h
    · rename_i M hM
      obtain ⟨e1, e2, e3⟩ := hP mid M hM mi hinf
      rw [← e1] at h
      exact met_sim (rF := (r, w')) hLL (hmok mid mi hinf) e2 e3 (Ex_ext P d) (Ex_sim hLL hmok hP hH d) hmok h hnt adr
    · rename_i q hq
      exact hH d (Ex_sim hLL hmok hP hH d) mid q hq w as r w' h mi hinf adr
    · cases h
