/-! ===== worlds only grow (printed by wip/whole/simk.py) ===== -/
def ExtC (C : sC) : Prop := ∀ (mid : Nat) (w : sW) (as : List sV) (r : Option sV) (w' : sW), C mid w as = some (r, w') → Ext w w'
theorem n012_s {α : Type} {nn : List Nat} {f0 : Option α} {f1 : Nat → Option α} {f2 : Nat → Nat → Option α} {o : α} (h : nC nn f0 f1 f2 = some o) : f0 = some o ∨ (∃ x, f1 x = some o) ∨ ∃ x y, f2 x y = some o := by
  unfold nC at h
  split at h
  · exact Or.inl h
  · exact Or.inr (Or.inl ⟨_, h⟩)
  · exact Or.inr (Or.inr ⟨_, _, h⟩)
  · cases h
theorem a012_s {α : Type} {ax : List Int} {f0 : Option α} {f1 : Int → Option α} {f2 : Int → Int → Option α} {o : α} (h : aC ax f0 f1 f2 = some o) : f0 = some o ∨ (∃ x, f1 x = some o) ∨ ∃ x y, f2 x y = some o := by
  unfold aC at h
  split at h
  · exact Or.inl h
  · exact Or.inr (Or.inl ⟨_, h⟩)
  · exact Or.inr (Or.inr ⟨_, _, h⟩)
  · cases h
theorem t0123_s {α : Type} {t : Nat} {f0 f1 f2 f3 : Option α} {o : α} (h : tC t f0 f1 f2 f3 = some o) : f0 = some o ∨ f1 = some o ∨ f2 = some o ∨ f3 = some o := by
  unfold tC at h
  split at h
  · exact Or.inl h
  · exact Or.inr (Or.inl h)
  · exact Or.inr (Or.inr (Or.inl h))
  · exact Or.inr (Or.inr (Or.inr h))
  · cases h
theorem ite_s {α : Type} {c : Prop} {d : Decidable c} {a b : Option α} {o : α} (h : (@ite _ c d a b) = some o) : a = some o ∨ b = some o := by
  by_cases hc : c
  · rw [if_pos hc] at h; exact Or.inl h
  · rw [if_neg hc] at h; exact Or.inr h
theorem cond_s {α : Type} {c : Bool} {a b : Option α} {o : α} (h : (bif c then a else b) = some o) : a = some o ∨ b = some o := by
  cases c with
  | true => exact Or.inl h
  | false => exact Or.inr h
theorem sx_ext {C : sC} (hC : ExtC C) {ret tg pc : Nat} {e : Instr} {nn : List Nat} {ax : List Int} {sw : List (Int × Nat)} {ls : sL} {st : List sV} {w : sW} {kr : Option sV → sW → Option sO} {k : Nat → sL → List sV → sW → Option sO} {o : sO} {P : Prop} (h : sx C ret e tg nn ax sw pc ls st w kr k = some o) (hk : ∀ pc ls st w', k pc ls st w' = some o → Ext w w' → P) (hkr : ∀ v w', kr v w' = some o → Ext w w' → P) : P := by
  cases e with
  | iconst n =>
    exact hk _ _ _ _ h Ext.rf
  | bipush n =>
    exact hk _ _ _ _ h Ext.rf
  | sipush n =>
    exact hk _ _ _ _ h Ext.rf
  | aconst_null =>
    exact hk _ _ _ _ h Ext.rf
  | goto n =>
    exact hk _ _ _ _ h Ext.rf
  | lconst n =>
    obtain ⟨_, _, h⟩ := a1_s h
    exact hk _ _ _ _ h Ext.rf
  | ldc n =>
    obtain ⟨_, _, h⟩ := a1_s h
    exact hk _ _ _ _ h Ext.rf
  | ldc_w n =>
    obtain ⟨_, _, h⟩ := a1_s h
    exact hk _ _ _ _ h Ext.rf
  | ldc2_w n =>
    obtain ⟨_, _, h⟩ := a1_s h
    exact hk _ _ _ _ h Ext.rf
  | getstatic n =>
    obtain ⟨_, _, h⟩ := a1_s h
    exact hk _ _ _ _ h Ext.rf
  | iload n =>
    obtain ⟨_, _, h⟩ := ldI_s h
    exact hk _ _ _ _ h Ext.rf
  | iload_n n =>
    obtain ⟨_, _, h⟩ := ldI_s h
    exact hk _ _ _ _ h Ext.rf
  | lload n =>
    obtain ⟨_, _, h⟩ := ldL_s h
    exact hk _ _ _ _ h Ext.rf
  | lload_n n =>
    obtain ⟨_, _, h⟩ := ldL_s h
    exact hk _ _ _ _ h Ext.rf
  | aload n =>
    obtain ⟨_, _, h⟩ := ldR_s h
    exact hk _ _ _ _ h Ext.rf
  | aload_n n =>
    obtain ⟨_, _, h⟩ := ldR_s h
    exact hk _ _ _ _ h Ext.rf
  | istore n =>
    obtain ⟨_, _, _, h⟩ := pI_s h
    obtain ⟨_, _, h⟩ := st1_s h
    exact hk _ _ _ _ h Ext.rf
  | istore_n n =>
    obtain ⟨_, _, _, h⟩ := pI_s h
    obtain ⟨_, _, h⟩ := st1_s h
    exact hk _ _ _ _ h Ext.rf
  | lstore n =>
    obtain ⟨_, _, _, h⟩ := pL_s h
    obtain ⟨_, _, h⟩ := st2_s h
    exact hk _ _ _ _ h Ext.rf
  | lstore_n n =>
    obtain ⟨_, _, _, h⟩ := pL_s h
    obtain ⟨_, _, h⟩ := st2_s h
    exact hk _ _ _ _ h Ext.rf
  | astore n =>
    obtain ⟨_, _, _, h⟩ := pR_s h
    obtain ⟨_, _, h⟩ := st1_s h
    exact hk _ _ _ _ h Ext.rf
  | astore_n n =>
    obtain ⟨_, _, _, h⟩ := pR_s h
    obtain ⟨_, _, h⟩ := st1_s h
    exact hk _ _ _ _ h Ext.rf
  | iinc a b =>
    obtain ⟨_, _, h⟩ := ldI_s h
    obtain ⟨_, _, h⟩ := st1_s h
    exact hk _ _ _ _ h Ext.rf
  | iadd =>
    obtain ⟨_, _, _, h⟩ := pI_s h
    obtain ⟨_, _, _, h⟩ := pI_s h
    exact hk _ _ _ _ h Ext.rf
  | isub =>
    obtain ⟨_, _, _, h⟩ := pI_s h
    obtain ⟨_, _, _, h⟩ := pI_s h
    exact hk _ _ _ _ h Ext.rf
  | imul =>
    obtain ⟨_, _, _, h⟩ := pI_s h
    obtain ⟨_, _, _, h⟩ := pI_s h
    exact hk _ _ _ _ h Ext.rf
  | ishl =>
    obtain ⟨_, _, _, h⟩ := pI_s h
    obtain ⟨_, _, _, h⟩ := pI_s h
    exact hk _ _ _ _ h Ext.rf
  | ishr =>
    obtain ⟨_, _, _, h⟩ := pI_s h
    obtain ⟨_, _, _, h⟩ := pI_s h
    exact hk _ _ _ _ h Ext.rf
  | iushr =>
    obtain ⟨_, _, _, h⟩ := pI_s h
    obtain ⟨_, _, _, h⟩ := pI_s h
    exact hk _ _ _ _ h Ext.rf
  | iand =>
    obtain ⟨_, _, _, h⟩ := pI_s h
    obtain ⟨_, _, _, h⟩ := pI_s h
    exact hk _ _ _ _ h Ext.rf
  | ior =>
    obtain ⟨_, _, _, h⟩ := pI_s h
    obtain ⟨_, _, _, h⟩ := pI_s h
    exact hk _ _ _ _ h Ext.rf
  | idiv =>
    obtain ⟨_, _, _, h⟩ := pI_s h
    obtain ⟨_, _, _, h⟩ := pI_s h
    rcases ite_s h with h | h
    · cases h
    · exact hk _ _ _ _ h Ext.rf
  | irem =>
    obtain ⟨_, _, _, h⟩ := pI_s h
    obtain ⟨_, _, _, h⟩ := pI_s h
    rcases ite_s h with h | h
    · cases h
    · exact hk _ _ _ _ h Ext.rf
  | ladd =>
    obtain ⟨_, _, _, h⟩ := pL_s h
    obtain ⟨_, _, _, h⟩ := pL_s h
    exact hk _ _ _ _ h Ext.rf
  | lsub =>
    obtain ⟨_, _, _, h⟩ := pL_s h
    obtain ⟨_, _, _, h⟩ := pL_s h
    exact hk _ _ _ _ h Ext.rf
  | lmul =>
    obtain ⟨_, _, _, h⟩ := pL_s h
    obtain ⟨_, _, _, h⟩ := pL_s h
    exact hk _ _ _ _ h Ext.rf
  | land =>
    obtain ⟨_, _, _, h⟩ := pL_s h
    obtain ⟨_, _, _, h⟩ := pL_s h
    exact hk _ _ _ _ h Ext.rf
  | lor =>
    obtain ⟨_, _, _, h⟩ := pL_s h
    obtain ⟨_, _, _, h⟩ := pL_s h
    exact hk _ _ _ _ h Ext.rf
  | lcmp =>
    obtain ⟨_, _, _, h⟩ := pL_s h
    obtain ⟨_, _, _, h⟩ := pL_s h
    exact hk _ _ _ _ h Ext.rf
  | ldiv =>
    obtain ⟨_, _, _, h⟩ := pL_s h
    obtain ⟨_, _, _, h⟩ := pL_s h
    rcases ite_s h with h | h
    · cases h
    · exact hk _ _ _ _ h Ext.rf
  | lrem =>
    obtain ⟨_, _, _, h⟩ := pL_s h
    obtain ⟨_, _, _, h⟩ := pL_s h
    rcases ite_s h with h | h
    · cases h
    · exact hk _ _ _ _ h Ext.rf
  | lshl =>
    obtain ⟨_, _, _, h⟩ := pI_s h
    obtain ⟨_, _, _, h⟩ := pL_s h
    exact hk _ _ _ _ h Ext.rf
  | lshr =>
    obtain ⟨_, _, _, h⟩ := pI_s h
    obtain ⟨_, _, _, h⟩ := pL_s h
    exact hk _ _ _ _ h Ext.rf
  | lushr =>
    obtain ⟨_, _, _, h⟩ := pI_s h
    obtain ⟨_, _, _, h⟩ := pL_s h
    exact hk _ _ _ _ h Ext.rf
  | i2l =>
    obtain ⟨_, _, _, h⟩ := pI_s h
    exact hk _ _ _ _ h Ext.rf
  | l2i =>
    obtain ⟨_, _, _, h⟩ := pL_s h
    exact hk _ _ _ _ h Ext.rf
  | i2b =>
    obtain ⟨_, _, _, h⟩ := pI_s h
    obtain ⟨_, h⟩ := if_s h
    exact hk _ _ _ _ h Ext.rf
  | dup =>
    obtain ⟨_, _, _, _, h⟩ := p1_s h
    exact hk _ _ _ _ h Ext.rf
  | dup2 =>
    obtain ⟨_, _, _, _, h⟩ := p1_s h
    obtain ⟨_, _, _, _, h⟩ := p1_s h
    exact hk _ _ _ _ h Ext.rf
  | pop =>
    obtain ⟨_, _, _, _, h⟩ := p1_s h
    exact hk _ _ _ _ h Ext.rf
  | ifCond c f =>
    cases c
    · obtain ⟨_, _, _, h⟩ := pI_s h
      rcases ite_s h with h | h <;> exact hk _ _ _ _ h Ext.rf
    · obtain ⟨_, _, _, h⟩ := pI_s h
      rcases ite_s h with h | h <;> exact hk _ _ _ _ h Ext.rf
    · obtain ⟨_, _, _, h⟩ := pI_s h
      rcases ite_s h with h | h <;> exact hk _ _ _ _ h Ext.rf
    · obtain ⟨_, _, _, h⟩ := pI_s h
      rcases ite_s h with h | h <;> exact hk _ _ _ _ h Ext.rf
    · obtain ⟨_, _, _, h⟩ := pI_s h
      rcases ite_s h with h | h <;> exact hk _ _ _ _ h Ext.rf
    · obtain ⟨_, _, _, h⟩ := pI_s h
      rcases ite_s h with h | h <;> exact hk _ _ _ _ h Ext.rf
  | if_icmp c f =>
    cases c
    · obtain ⟨_, _, _, h⟩ := pI_s h
      obtain ⟨_, _, _, h⟩ := pI_s h
      rcases ite_s h with h | h <;> exact hk _ _ _ _ h Ext.rf
    · obtain ⟨_, _, _, h⟩ := pI_s h
      obtain ⟨_, _, _, h⟩ := pI_s h
      rcases ite_s h with h | h <;> exact hk _ _ _ _ h Ext.rf
    · obtain ⟨_, _, _, h⟩ := pI_s h
      obtain ⟨_, _, _, h⟩ := pI_s h
      rcases ite_s h with h | h <;> exact hk _ _ _ _ h Ext.rf
    · obtain ⟨_, _, _, h⟩ := pI_s h
      obtain ⟨_, _, _, h⟩ := pI_s h
      rcases ite_s h with h | h <;> exact hk _ _ _ _ h Ext.rf
    · obtain ⟨_, _, _, h⟩ := pI_s h
      obtain ⟨_, _, _, h⟩ := pI_s h
      rcases ite_s h with h | h <;> exact hk _ _ _ _ h Ext.rf
    · obtain ⟨_, _, _, h⟩ := pI_s h
      obtain ⟨_, _, _, h⟩ := pI_s h
      rcases ite_s h with h | h <;> exact hk _ _ _ _ h Ext.rf
  | if_acmp c f =>
    cases c
    · obtain ⟨_, _, _, h⟩ := pR_s h
      obtain ⟨_, _, _, h⟩ := pR_s h
      obtain ⟨_, h⟩ := if_s h
      rcases ite_s h with h | h <;> exact hk _ _ _ _ h Ext.rf
    · obtain ⟨_, _, _, h⟩ := pR_s h
      obtain ⟨_, _, _, h⟩ := pR_s h
      obtain ⟨_, h⟩ := if_s h
      rcases ite_s h with h | h <;> exact hk _ _ _ _ h Ext.rf
  | ifnull f =>
    obtain ⟨_, _, _, h⟩ := pR_s h
    rcases ite_s h with h | h <;> exact hk _ _ _ _ h Ext.rf
  | ifnonnull f =>
    obtain ⟨_, _, _, h⟩ := pR_s h
    rcases ite_s h with h | h <;> exact hk _ _ _ _ h Ext.rf
  | tableswitch a b c d =>
    obtain ⟨_, _, _, h⟩ := pI_s h
    rw [swi_eq] at h
    exact hk _ _ _ _ h Ext.rf
  | lookupswitch a b =>
    obtain ⟨_, _, _, h⟩ := pI_s h
    rw [swi_eq] at h
    exact hk _ _ _ _ h Ext.rf
  | getfield n =>
    obtain ⟨_, _, _, h⟩ := a2_s h
    obtain ⟨_, _, _, h⟩ := pR_s h
    obtain ⟨_, h⟩ := if_s h
    exact hk _ _ _ _ h Ext.rf
  | putfield n =>
    obtain ⟨_, _, _, h⟩ := a2_s h
    rcases t0123_s h with h | h | h | h
    · obtain ⟨_, _, _, h⟩ := pI_s h
      obtain ⟨_, _, _, h⟩ := pR_s h
      obtain ⟨_, h⟩ := if_s h
      exact hk _ _ _ _ h Ext.sv
    · obtain ⟨_, _, _, h⟩ := pL_s h
      obtain ⟨_, _, _, h⟩ := pR_s h
      obtain ⟨_, h⟩ := if_s h
      exact hk _ _ _ _ h Ext.sv
    · obtain ⟨_, _, _, h⟩ := pR_s h
      obtain ⟨_, _, _, h⟩ := pR_s h
      obtain ⟨_, h⟩ := if_s h
      exact hk _ _ _ _ h Ext.sv
    · obtain ⟨_, _, _, h⟩ := pI_s h
      obtain ⟨_, _, _, h⟩ := pR_s h
      obtain ⟨_, h⟩ := if_s h
      exact hk _ _ _ _ h Ext.sv
  | iaload =>
    obtain ⟨_, _, _, h⟩ := pI_s h
    obtain ⟨_, _, _, h⟩ := pR_s h
    obtain ⟨_, h⟩ := if_s h
    exact hk _ _ _ _ h Ext.rf
  | baload =>
    obtain ⟨_, _, _, h⟩ := pI_s h
    obtain ⟨_, _, _, h⟩ := pR_s h
    obtain ⟨_, h⟩ := if_s h
    exact hk _ _ _ _ h Ext.rf
  | laload =>
    obtain ⟨_, _, _, h⟩ := pI_s h
    obtain ⟨_, _, _, h⟩ := pR_s h
    obtain ⟨_, h⟩ := if_s h
    exact hk _ _ _ _ h Ext.rf
  | aaload =>
    obtain ⟨_, _, _, h⟩ := pI_s h
    obtain ⟨_, _, _, h⟩ := pR_s h
    obtain ⟨_, h⟩ := if_s h
    exact hk _ _ _ _ h Ext.rf
  | iastore =>
    obtain ⟨_, _, _, h⟩ := pI_s h
    obtain ⟨_, _, _, h⟩ := pI_s h
    obtain ⟨_, _, _, h⟩ := pR_s h
    obtain ⟨_, h⟩ := if_s h
    exact hk _ _ _ _ h Ext.sv
  | bastore =>
    obtain ⟨_, _, _, h⟩ := pI_s h
    obtain ⟨_, _, _, h⟩ := pI_s h
    obtain ⟨_, _, _, h⟩ := pR_s h
    obtain ⟨_, h⟩ := if_s h
    exact hk _ _ _ _ h Ext.sv
  | lastore =>
    obtain ⟨_, _, _, h⟩ := pL_s h
    obtain ⟨_, _, _, h⟩ := pI_s h
    obtain ⟨_, _, _, h⟩ := pR_s h
    obtain ⟨_, h⟩ := if_s h
    exact hk _ _ _ _ h Ext.sv
  | aastore =>
    obtain ⟨_, _, _, h⟩ := pR_s h
    obtain ⟨_, _, _, h⟩ := pI_s h
    obtain ⟨_, _, _, h⟩ := pR_s h
    obtain ⟨_, h⟩ := if_s h
    exact hk _ _ _ _ h Ext.sv
  | arraylength =>
    obtain ⟨_, _, _, h⟩ := pR_s h
    obtain ⟨_, h⟩ := if_s h
    exact hk _ _ _ _ h Ext.rf
  | new n =>
    rcases a012_s h with h | ⟨_, h⟩ | ⟨_, _, h⟩
    · exact hkr _ _ (p0_s h).2 Ext.bp
    · exact hk _ _ _ _ h Ext.al
    · cases h
  | newarray n =>
    obtain ⟨_, _, h⟩ := a1_s h
    obtain ⟨_, _, _, h⟩ := pI_s h
    obtain ⟨_, h⟩ := if_s h
    exact hk _ _ _ _ h Ext.al
  | anewarray n =>
    obtain ⟨_, _, h⟩ := a1_s h
    obtain ⟨_, _, _, h⟩ := pI_s h
    obtain ⟨_, h⟩ := if_s h
    exact hk _ _ _ _ h Ext.al
  | invokevirtual n =>
    obtain ⟨_, _, h⟩ := a1_s h
    obtain ⟨_, _, _, h⟩ := n2_s h
    obtain ⟨_, _, _, _, h⟩ := pN_s h
    obtain ⟨_, _, _, h⟩ := pR_s h
    obtain ⟨_, h⟩ := if_s h
    obtain ⟨_, r, w1, hc, _, h⟩ := cal_s h
    exact hk _ _ _ _ h (hC _ _ _ _ _ hc)
  | invokespecial n =>
    obtain ⟨_, _, h⟩ := a1_s h
    rcases n012_s h with h | ⟨_, h⟩ | ⟨_, _, h⟩
    · obtain ⟨_, _, _, h⟩ := pR_s h
      obtain ⟨_, h⟩ := if_s h
      obtain ⟨_, h⟩ := c8_s h
      exact hk _ _ _ _ h Ext.rf
    · obtain ⟨_, _, _, _, h⟩ := pN_s h
      obtain ⟨_, _, _, h⟩ := pR_s h
      obtain ⟨_, h⟩ := if_s h
      obtain ⟨_, r, w1, hc, _, h⟩ := cal_s h
      exact hk _ _ _ _ h (hC _ _ _ _ _ hc)
    · cases h
  | invokestatic n =>
    rcases n012_s h with h | ⟨_, h⟩ | ⟨_, _, h⟩
    · cases h
    · rcases t0123_s h with h | h | h | h
      · obtain ⟨_, _, _, h⟩ := pI_s h
        obtain ⟨_, _, _, h⟩ := pI_s h
        obtain ⟨_, _, _, h⟩ := pR_s h
        obtain ⟨_, _, _, h⟩ := pI_s h
        obtain ⟨_, _, _, h⟩ := pR_s h
        obtain ⟨_, h⟩ := if_s h
        obtain ⟨_, h⟩ := c8_s h
        exact hk _ _ _ _ h Ext.cp
      · obtain ⟨_, _, _, h⟩ := pI_s h
        obtain ⟨_, _, _, h⟩ := pI_s h
        obtain ⟨_, h⟩ := c8_s h
        exact hk _ _ _ _ h Ext.rf
      · obtain ⟨_, _, _, h⟩ := pI_s h
        obtain ⟨_, _, _, h⟩ := pI_s h
        obtain ⟨_, h⟩ := c8_s h
        exact hk _ _ _ _ h Ext.rf
      · cases h
    · obtain ⟨_, _, _, _, h⟩ := pN_s h
      obtain ⟨_, r, w1, hc, _, h⟩ := cal_s h
      exact hk _ _ _ _ h (hC _ _ _ _ _ hc)
  | ireturn =>
    obtain ⟨_, _, _, h⟩ := pI_s h
    obtain ⟨_, h⟩ := p0_s h
    rcases cond_s h with h | h
    · obtain ⟨_, h⟩ := if_s h
      exact hkr _ _ h Ext.rf
    · exact hkr _ _ h Ext.rf
  | lreturn =>
    obtain ⟨_, _, _, h⟩ := pL_s h
    obtain ⟨_, h⟩ := p0_s h
    exact hkr _ _ h Ext.rf
  | areturn =>
    obtain ⟨_, _, _, h⟩ := pR_s h
    obtain ⟨_, h⟩ := p0_s h
    exact hkr _ _ h Ext.rf
  | return_ =>
    obtain ⟨_, h⟩ := p0_s h
    exact hkr _ _ h Ext.rf
  | _ => cases h
def wO : sO → sW
  | .inl c => c.2.2.2
  | .inr r => r.2
theorem sg_ext {C : sC} (hC : ExtC C) {M : sM} : ∀ (n pc : Nat) (ls : sL) (st : List sV) (w : sW) (o : sO), sg C M n pc ls st w = some o → Ext w (wO o)
  | 0, pc, ls, st, w, o, h => by simp [sg] at h
  | n + 1, pc, ls, st, w, o, h => by
    simp only [sg] at h
    split at h
    · cases h
    · refine sx_ext hC h (fun pc' ls' st' w' h' hx => ?_) (fun v w' h' hx => ?_)
      · unfold cutO at h'
        split at h'
        · cases h'
          exact hx
        · exact hx.tr (sg_ext hC n pc' ls' st' w' o h')
      · cases h'
        exact hx
theorem itr_ext {C : sC} (hC : ExtC C) {M : sM} : ∀ (n : Nat) (c : Nat × sL × List sV × sW) (r : Option sV × sW), itr C M n c = some r → Ext c.2.2.2 r.2
  | 0, c, r, h => by simp [itr] at h
  | n + 1, c, r, h => by
    simp only [itr] at h
    cases hs : sg C M 2000 c.1 c.2.1 c.2.2.1 c.2.2.2 with
    | none => rw [hs] at h; simp at h
    | some o =>
      rw [hs] at h
      have h1 := sg_ext hC _ _ _ _ _ _ hs
      cases o with
      | inr r' =>
        simp only [Option.some.injEq] at h
        subst h
        exact h1
      | inl c' => exact h1.tr (itr_ext hC n c' r h)
theorem runs_ext {C : sC} (hC : ExtC C) {M : sM} {w : sW} {as : List sV} {r : Option sV × sW} (h : runs C M w as = some r) : Ext w r.2 := by
  obtain ⟨-, n, hn⟩ := runs_iff.mp h
  exact itr_ext hC n _ _ hn
