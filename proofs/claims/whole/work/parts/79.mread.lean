/-! ===== what the reference asks and takes ===== -/
section MW
variable {d : Nat} {w : sW} {m : Int} {t : Int → Int} {n most p : Int}
theorem sp_leaf : Ex pro (d + 1) 160 w [iV 108, iV 101, iV 97, iV 102, iV 0, iV 0, iV 0] = some (some (lV 239874), w) := xX12_spelt (Rn.cut (c' := (78, [none, none, none, none, none, some (iV 0), some (iV 0), some (lV 239874), none], [], w)) (by rw [eX12_spelt_0]; rfl) (Rn.ret (by rw [eX12_spelt_78]; rfl)))
theorem sp_row : Ex pro (d + 1) 160 w [iV 114, iV 111, iV 119, iV 0, iV 0, iV 0, iV 0] = some (some (lV 13550), w) := xX12_spelt (Rn.cut (c' := (78, [none, none, none, none, none, some (iV 0), some (iV 0), some (lV 13550), none], [], w)) (by rw [eX12_spelt_0]; rfl) (Rn.ret (by rw [eX12_spelt_78]; rfl)))
theorem sp_letters : Ex pro (d + 1) 160 w [iV 108, iV 101, iV 116, iV 116, iV 101, iV 114, iV 115] = some (some (lV 4731817033), w) := xX12_spelt (Rn.cut (c' := (78, [none, none, none, none, none, some (iV 114), some (iV 115), some (lV 6490832), none], [], w)) (by rw [eX12_spelt_0]; rfl) (Rn.ret (by rw [eX12_spelt_78]; rfl)))
theorem sp_put : Ex pro (d + 1) 160 w [iV 112, iV 117, iV 116, iV 0, iV 0, iV 0, iV 0] = some (some (lV 12251), w) := xX12_spelt (Rn.cut (c' := (78, [none, none, none, none, none, some (iV 0), some (iV 0), some (lV 12251), none], [], w)) (by rw [eX12_spelt_0]; rfl) (Rn.ret (by rw [eX12_spelt_78]; rfl)))
theorem sp_set : Ex pro (d + 1) 160 w [iV 115, iV 101, iV 116, iV 0, iV 0, iV 0, iV 0] = some (some (lV 14006), w) := xX12_spelt (Rn.cut (c' := (78, [none, none, none, none, none, some (iV 0), some (iV 0), some (lV 14006), none], [], w)) (by rw [eX12_spelt_0]; rfl) (Rn.ret (by rw [eX12_spelt_78]; rfl)))
theorem sp_cut : Ex pro (d + 1) 160 w [iV 99, iV 117, iV 116, iV 0, iV 0, iV 0, iV 0] = some (some (lV 2774), w) := xX12_spelt (Rn.cut (c' := (78, [none, none, none, none, none, some (iV 0), some (iV 0), some (lV 2774), none], [], w)) (by rw [eX12_spelt_0]; rfl) (Rn.ret (by rw [eX12_spelt_78]; rfl)))
theorem sp_turn : Ex pro (d + 1) 160 w [iV 116, iV 117, iV 114, iV 110, iV 0, iV 0, iV 0] = some (some (lV 409469), w) := xX12_spelt (Rn.cut (c' := (78, [none, none, none, none, none, some (iV 0), some (iV 0), some (lV 409469), none], [], w)) (by rw [eX12_spelt_0]; rfl) (Rn.ret (by rw [eX12_spelt_78]; rfl)))
theorem sp_join : Ex pro (d + 1) 160 w [iV 106, iV 111, iV 105, iV 110, iV 0, iV 0, iV 0] = some (some (lV 208022), w) := xX12_spelt (Rn.cut (c' := (78, [none, none, none, none, none, some (iV 0), some (iV 0), some (lV 208022), none], [], w)) (by rw [eX12_spelt_0]; rfl) (Rn.ret (by rw [eX12_spelt_78]; rfl)))
theorem sp_split : Ex pro (d + 1) 160 w [iV 115, iV 112, iV 108, iV 105, iV 116, iV 0, iV 0] = some (some (lV 10421318), w) := xX12_spelt (Rn.cut (c' := (78, [none, none, none, none, none, some (iV 0), some (iV 0), some (lV 10421318), none], [], w)) (by rw [eX12_spelt_0]; rfl) (Rn.ret (by rw [eX12_spelt_78]; rfl)))
theorem sp_type : Ex pro (d + 1) 160 w [iV 116, iV 121, iV 112, iV 101, iV 0, iV 0, iV 0] = some (some (lV 412322), w) := xX12_spelt (Rn.cut (c' := (78, [none, none, none, none, none, some (iV 0), some (iV 0), some (lV 412322), none], [], w)) (by rw [eX12_spelt_0]; rfl) (Rn.ret (by rw [eX12_spelt_78]; rfl)))
theorem sp_erase : Ex pro (d + 1) 160 w [iV 101, iV 114, iV 97, iV 115, iV 101, iV 0, iV 0] = some (some (lV 3012746), w) := xX12_spelt (Rn.cut (c' := (78, [none, none, none, none, none, some (iV 0), some (iV 0), some (lV 3012746), none], [], w)) (by rw [eX12_spelt_0]; rfl) (Rn.ret (by rw [eX12_spelt_78]; rfl)))
theorem sp_or : Ex pro (d + 1) 160 w [iV 111, iV 114, iV 0, iV 0, iV 0, iV 0, iV 0] = some (some (lV 423), w) := xX12_spelt (Rn.cut (c' := (78, [none, none, none, none, none, some (iV 0), some (iV 0), some (lV 423), none], [], w)) (by rw [eX12_spelt_0]; rfl) (Rn.ret (by rw [eX12_spelt_78]; rfl)))
theorem sp_and : Ex pro (d + 1) 160 w [iV 97, iV 110, iV 100, iV 0, iV 0, iV 0, iV 0] = some (some (lV 1111), w) := xX12_spelt (Rn.cut (c' := (78, [none, none, none, none, none, some (iV 0), some (iV 0), some (lV 1111), none], [], w)) (by rw [eX12_spelt_0]; rfl) (Rn.ret (by rw [eX12_spelt_78]; rfl)))
theorem sp_not : Ex pro (d + 1) 160 w [iV 110, iV 111, iV 116, iV 0, iV 0, iV 0, iV 0] = some (some (lV 10631), w) := xX12_spelt (Rn.cut (c' := (78, [none, none, none, none, none, some (iV 0), some (iV 0), some (lV 10631), none], [], w)) (by rw [eX12_spelt_0]; rfl) (Rn.ret (by rw [eX12_spelt_78]; rfl)))
theorem sp_empty : Ex pro (d + 1) 160 w [iV 101, iV 109, iV 112, iV 116, iV 121, iV 0, iV 0] = some (some (lV 2925313), w) := xX12_spelt (Rn.cut (c' := (78, [none, none, none, none, none, some (iV 0), some (iV 0), some (lV 2925313), none], [], w)) (by rw [eX12_spelt_0]; rfl) (Rn.ret (by rw [eX12_spelt_78]; rfl)))
theorem sp_even : Ex pro (d + 1) 160 w [iV 101, iV 118, iV 101, iV 110, iV 0, iV 0, iV 0] = some (some (lV 114602), w) := xX12_spelt (Rn.cut (c' := (78, [none, none, none, none, none, some (iV 0), some (iV 0), some (lV 114602), none], [], w)) (by rw [eX12_spelt_0]; rfl) (Rn.ret (by rw [eX12_spelt_78]; rfl)))
theorem sp_like : Ex pro (d + 1) 160 w [iV 108, iV 105, iV 107, iV 101, iV 0, iV 0, iV 0] = some (some (lV 243059), w) := xX12_spelt (Rn.cut (c' := (78, [none, none, none, none, none, some (iV 0), some (iV 0), some (lV 243059), none], [], w)) (by rw [eX12_spelt_0]; rfl) (Rn.ret (by rw [eX12_spelt_78]; rfl)))
theorem sp_begins : Ex pro (d + 1) 160 w [iV 98, iV 101, iV 103, iV 105, iV 110, iV 115, iV 0] = some (some (lV 31499758), w) := xX12_spelt (Rn.cut (c' := (78, [none, none, none, none, none, some (iV 115), some (iV 0), some (lV 1166657), none], [], w)) (by rw [eX12_spelt_0]; rfl) (Rn.ret (by rw [eX12_spelt_78]; rfl)))
theorem sp_size : Ex pro (d + 1) 160 w [iV 115, iV 105, iV 122, iV 101, iV 0, iV 0, iV 0] = some (some (lV 381245), w) := xX12_spelt (Rn.cut (c' := (78, [none, none, none, none, none, some (iV 0), some (iV 0), some (lV 381245), none], [], w)) (by rw [eX12_spelt_0]; rfl) (Rn.ret (by rw [eX12_spelt_78]; rfl)))
theorem sp_ones : Ex pro (d + 1) 160 w [iV 111, iV 110, iV 101, iV 115, iV 0, iV 0, iV 0] = some (some (lV 305605), w) := xX12_spelt (Rn.cut (c' := (78, [none, none, none, none, none, some (iV 0), some (iV 0), some (lV 305605), none], [], w)) (by rw [eX12_spelt_0]; rfl) (Rn.ret (by rw [eX12_spelt_78]; rfl)))
theorem sp_runs : Ex pro (d + 1) 160 w [iV 114, iV 117, iV 110, iV 115, iV 0, iV 0, iV 0] = some (some (lV 370000), w) := xX12_spelt (Rn.cut (c' := (78, [none, none, none, none, none, some (iV 0), some (iV 0), some (lV 370000), none], [], w)) (by rw [eX12_spelt_0]; rfl) (Rn.ret (by rw [eX12_spelt_78]; rfl)))
theorem sp_leaves : Ex pro (d + 1) 160 w [iV 108, iV 101, iV 97, iV 118, iV 101, iV 115, iV 0] = some (some (lV 174879964), w) := xX12_spelt (Rn.cut (c' := (78, [none, none, none, none, none, some (iV 115), some (iV 0), some (lV 6477035), none], [], w)) (by rw [eX12_spelt_0]; rfl) (Rn.ret (by rw [eX12_spelt_78]; rfl)))
theorem sp_number : Ex pro (d + 1) 160 w [iV 110, iV 117, iV 109, iV 98, iV 101, iV 114, iV 0] = some (some (lV 212302449), w) := xX12_spelt (Rn.cut (c' := (78, [none, none, none, none, none, some (iV 114), some (iV 0), some (lV 7863053), none], [], w)) (by rw [eX12_spelt_0]; rfl) (Rn.ret (by rw [eX12_spelt_78]; rfl)))
theorem o_wordOf {k : Int} (h : 0 ≤ k ∧ k < 23) : Ex pro (d + 2) 161 w [iV k] = some (some (lV (wc27 k)), w) := by
  rcases k23 h with e | e | e | e | e | e | e | e | e | e | e | e | e | e | e | e | e | e | e | e | e | e | e <;> subst e
  · refine xX12_wordOf (Rn.ret ?_)
    rw [eX12_wordOf_0, if_pos rfl, sp_leaf]
    rfl
  · refine xX12_wordOf (Rn.ret ?_)
    rw [eX12_wordOf_0, if_neg (by decide), if_pos rfl, sp_row]
    rfl
  · refine xX12_wordOf (Rn.ret ?_)
    rw [eX12_wordOf_0, if_neg (by decide), if_neg (by decide), if_pos rfl, sp_letters]
    rfl
  · refine xX12_wordOf (Rn.ret ?_)
    rw [eX12_wordOf_0, if_neg (by decide), if_neg (by decide), if_neg (by decide), if_pos rfl, sp_put]
    rfl
  · refine xX12_wordOf (Rn.ret ?_)
    rw [eX12_wordOf_0, if_neg (by decide), if_neg (by decide), if_neg (by decide), if_neg (by decide), if_pos rfl, sp_set]
    rfl
  · refine xX12_wordOf (Rn.ret ?_)
    rw [eX12_wordOf_0, if_neg (by decide), if_neg (by decide), if_neg (by decide), if_neg (by decide), if_neg (by decide), if_pos rfl, sp_cut]
    rfl
  · refine xX12_wordOf (Rn.ret ?_)
    rw [eX12_wordOf_0, if_neg (by decide), if_neg (by decide), if_neg (by decide), if_neg (by decide), if_neg (by decide), if_neg (by decide), if_pos rfl, sp_turn]
    rfl
  · refine xX12_wordOf (Rn.ret ?_)
    rw [eX12_wordOf_0, if_neg (by decide), if_neg (by decide), if_neg (by decide), if_neg (by decide), if_neg (by decide), if_neg (by decide), if_neg (by decide), if_pos rfl, sp_join]
    rfl
  · refine xX12_wordOf (Rn.ret ?_)
    rw [eX12_wordOf_0, if_neg (by decide), if_neg (by decide), if_neg (by decide), if_neg (by decide), if_neg (by decide), if_neg (by decide), if_neg (by decide), if_neg (by decide), if_pos rfl, sp_split]
    rfl
  · refine xX12_wordOf (Rn.ret ?_)
    rw [eX12_wordOf_0, if_neg (by decide), if_neg (by decide), if_neg (by decide), if_neg (by decide), if_neg (by decide), if_neg (by decide), if_neg (by decide), if_neg (by decide), if_neg (by decide), if_pos rfl, sp_type]
    rfl
  · refine xX12_wordOf (Rn.ret ?_)
    rw [eX12_wordOf_0, if_neg (by decide), if_neg (by decide), if_neg (by decide), if_neg (by decide), if_neg (by decide), if_neg (by decide), if_neg (by decide), if_neg (by decide), if_neg (by decide), if_neg (by decide), if_pos rfl, sp_erase]
    rfl
  · refine xX12_wordOf (Rn.ret ?_)
    rw [eX12_wordOf_0, if_neg (by decide), if_neg (by decide), if_neg (by decide), if_neg (by decide), if_neg (by decide), if_neg (by decide), if_neg (by decide), if_neg (by decide), if_neg (by decide), if_neg (by decide), if_neg (by decide), if_pos rfl, sp_or]
    rfl
  · refine xX12_wordOf (Rn.ret ?_)
    rw [eX12_wordOf_0, if_neg (by decide), if_neg (by decide), if_neg (by decide), if_neg (by decide), if_neg (by decide), if_neg (by decide), if_neg (by decide), if_neg (by decide), if_neg (by decide), if_neg (by decide), if_neg (by decide), if_neg (by decide), if_pos rfl, sp_and]
    rfl
  · refine xX12_wordOf (Rn.ret ?_)
    rw [eX12_wordOf_0, if_neg (by decide), if_neg (by decide), if_neg (by decide), if_neg (by decide), if_neg (by decide), if_neg (by decide), if_neg (by decide), if_neg (by decide), if_neg (by decide), if_neg (by decide), if_neg (by decide), if_neg (by decide), if_neg (by decide), if_pos rfl, sp_not]
    rfl
  · refine xX12_wordOf (Rn.ret ?_)
    rw [eX12_wordOf_0, if_neg (by decide), if_neg (by decide), if_neg (by decide), if_neg (by decide), if_neg (by decide), if_neg (by decide), if_neg (by decide), if_neg (by decide), if_neg (by decide), if_neg (by decide), if_neg (by decide), if_neg (by decide), if_neg (by decide), if_neg (by decide), if_pos rfl, sp_empty]
    rfl
  · refine xX12_wordOf (Rn.ret ?_)
    rw [eX12_wordOf_0, if_neg (by decide), if_neg (by decide), if_neg (by decide), if_neg (by decide), if_neg (by decide), if_neg (by decide), if_neg (by decide), if_neg (by decide), if_neg (by decide), if_neg (by decide), if_neg (by decide), if_neg (by decide), if_neg (by decide), if_neg (by decide), if_neg (by decide), if_pos rfl, sp_even]
    rfl
  · refine xX12_wordOf (Rn.ret ?_)
    rw [eX12_wordOf_0, if_neg (by decide), if_neg (by decide), if_neg (by decide), if_neg (by decide), if_neg (by decide), if_neg (by decide), if_neg (by decide), if_neg (by decide), if_neg (by decide), if_neg (by decide), if_neg (by decide), if_neg (by decide), if_neg (by decide), if_neg (by decide), if_neg (by decide), if_neg (by decide), if_pos rfl, sp_like]
    rfl
  · refine xX12_wordOf (Rn.ret ?_)
    rw [eX12_wordOf_0, if_neg (by decide), if_neg (by decide), if_neg (by decide), if_neg (by decide), if_neg (by decide), if_neg (by decide), if_neg (by decide), if_neg (by decide), if_neg (by decide), if_neg (by decide), if_neg (by decide), if_neg (by decide), if_neg (by decide), if_neg (by decide), if_neg (by decide), if_neg (by decide), if_neg (by decide), if_pos rfl, sp_begins]
    rfl
  · refine xX12_wordOf (Rn.ret ?_)
    rw [eX12_wordOf_0, if_neg (by decide), if_neg (by decide), if_neg (by decide), if_neg (by decide), if_neg (by decide), if_neg (by decide), if_neg (by decide), if_neg (by decide), if_neg (by decide), if_neg (by decide), if_neg (by decide), if_neg (by decide), if_neg (by decide), if_neg (by decide), if_neg (by decide), if_neg (by decide), if_neg (by decide), if_neg (by decide), if_pos rfl, sp_size]
    rfl
  · refine xX12_wordOf (Rn.ret ?_)
    rw [eX12_wordOf_0, if_neg (by decide), if_neg (by decide), if_neg (by decide), if_neg (by decide), if_neg (by decide), if_neg (by decide), if_neg (by decide), if_neg (by decide), if_neg (by decide), if_neg (by decide), if_neg (by decide), if_neg (by decide), if_neg (by decide), if_neg (by decide), if_neg (by decide), if_neg (by decide), if_neg (by decide), if_neg (by decide), if_neg (by decide), if_pos rfl, sp_ones]
    rfl
  · refine xX12_wordOf (Rn.ret ?_)
    rw [eX12_wordOf_0, if_neg (by decide), if_neg (by decide), if_neg (by decide), if_neg (by decide), if_neg (by decide), if_neg (by decide), if_neg (by decide), if_neg (by decide), if_neg (by decide), if_neg (by decide), if_neg (by decide), if_neg (by decide), if_neg (by decide), if_neg (by decide), if_neg (by decide), if_neg (by decide), if_neg (by decide), if_neg (by decide), if_neg (by decide), if_neg (by decide), if_pos rfl, sp_runs]
    rfl
  · refine xX12_wordOf (Rn.ret ?_)
    rw [eX12_wordOf_0, if_neg (by decide), if_neg (by decide), if_neg (by decide), if_neg (by decide), if_neg (by decide), if_neg (by decide), if_neg (by decide), if_neg (by decide), if_neg (by decide), if_neg (by decide), if_neg (by decide), if_neg (by decide), if_neg (by decide), if_neg (by decide), if_neg (by decide), if_neg (by decide), if_neg (by decide), if_neg (by decide), if_neg (by decide), if_neg (by decide), if_neg (by decide), if_pos rfl, sp_leaves]
    rfl
  · refine xX12_wordOf (Rn.ret ?_)
    rw [eX12_wordOf_0, if_neg (by decide), if_neg (by decide), if_neg (by decide), if_neg (by decide), if_neg (by decide), if_neg (by decide), if_neg (by decide), if_neg (by decide), if_neg (by decide), if_neg (by decide), if_neg (by decide), if_neg (by decide), if_neg (by decide), if_neg (by decide), if_neg (by decide), if_neg (by decide), if_neg (by decide), if_neg (by decide), if_neg (by decide), if_neg (by decide), if_neg (by decide), if_neg (by decide), sp_number]
    rfl
/-- whether the word k stands there -/
abbrev isW (t : Int → Int) (n most p k : Int) : Prop := tkW t n most p = k + 1
theorem isW_iff {k : Int} (h : 0 ≤ k ∧ k < 23) : isW t n most p k ↔ tkK t n most p = 2 ∧ tk27 t n most p = wc27 k := by
  unfold isW tkW
  by_cases c : tkK t n most p = 2
  · rw [if_pos c, wid_iff h, (tk_word c).2.2.1.iff (nm_w h)]
    exact ⟨fun z => ⟨c, z⟩, fun z => z.2⟩
  · rw [if_neg c]
    exact ⟨fun z => by omega, fun z => absurd z.1 c⟩
theorem isNm_iff : isNm t n most p ↔ tkK t n most p = 2 ∧ ∀ k, 0 ≤ k → k < 23 → tk27 t n most p ≠ wc27 k := by
  unfold isNm tkW
  by_cases c : tkK t n most p = 2
  · rw [if_pos c, wid_0]
    refine ⟨fun z => ⟨c, fun k k0 k1 e => z.2 k k0 k1 (((tk_word c).2.2.1.iff (nm_w ⟨k0, k1⟩)).mpr e)⟩, fun z => ⟨c, fun k k0 k1 e => z.2 k k0 k1 (((tk_word c).2.2.1.iff (nm_w ⟨k0, k1⟩)).mp e)⟩⟩
  · exact ⟨fun z => absurd z.1 c, fun z => absurd z.1 c⟩
theorem o_isWord (h : RdM w m t n most p) {k : Int} (hk : 0 ≤ k ∧ k < 23) : Ex pro (d + 3) 162 w [rV m, iV k] = some (some (iV (if isW t n most p k then 1 else 0)), w) := by
  have kk := h.1.1.1
  refine xX12_isWord (Rn.ret ?_)
  rw [eX12_isWord_0, if_pos kk, h.2.1]
  by_cases c : tkK t n most p = 2
  · rw [if_pos c, if_pos kk, o_wordOf hk]
    simp only [bL]
    rw [h.2.2.2.2.1 c]
    by_cases z : tk27 t n most p = wc27 k
    · rw [if_pos (cmp_eq.mpr z), if_pos ((isW_iff hk).mpr ⟨c, z⟩)]
    · rw [if_neg (fun y => z (cmp_eq.mp y)), if_neg (fun y => z ((isW_iff hk).mp y).2)]
  · rw [if_neg c, if_neg (fun y => c ((isW_iff hk).mp y).1)]
theorem o_isSign (h : RdM w m t n most p) (c : Int) : Ex pro (d + 1) 163 w [rV m, iV c] = some (some (iV (if atS t n most p c then 1 else 0)), w) := by
  have k := h.1.1.1
  refine xX12_isSign (Rn.ret ?_)
  rw [eX12_isSign_0, if_pos k, h.2.1]
  by_cases z : tkK t n most p = 4
  · rw [if_pos z, if_pos k, h.2.2.2.2.2.2 z]
    by_cases y : tkS t n most p = c
    · rw [if_pos y, if_pos ⟨z, y⟩]
    · rw [if_neg y, if_neg (fun u => y u.2)]
  · rw [if_neg z, if_neg (fun u => z u.1)]
theorem l_isName (h : RdM w m t n most p) (c : tkK t n most p = 2) : ∀ (f : Nat) (k : Int), k + f = 23 → 0 ≤ k → (∀ j, 0 ≤ j → j < k → tk27 t n most p ≠ wc27 j) → Rn (Ex pro (d + 2)) mX12_isName (12, [some (rV m), some (iV k)], [], w) (some (iV (if isNm t n most p then 1 else 0)), w)
  | 0, k, hf, h0, hj => by
    refine Rn.ret ?_
    rw [eX12_isName_12, if_pos (by omega), if_pos (isNm_iff.mpr ⟨c, fun j j0 j1 => hj j j0 (by omega)⟩)]
  | f + 1, k, hf, h0, hj => by
    have kk := h.1.1.1
    by_cases z : tk27 t n most p = wc27 k
    · refine Rn.ret ?_
      rw [eX12_isName_12, if_neg (by omega), if_pos kk, o_wordOf ⟨h0, by omega⟩]
      simp only [bL]
      rw [h.2.2.2.2.1 c, if_pos (cmp_eq.mpr z), if_neg (fun y => (isNm_iff.mp y).2 k h0 (by omega) z)]
    · refine Rn.cut ?_ (l_isName h c f (k + 1) (by omega) (by omega) (fun j j0 j1 => by
        by_cases y : j = k
        · rw [y]; exact z
        · exact hj j j0 (by omega)))
      rw [eX12_isName_12, if_neg (by omega), if_pos kk, o_wordOf ⟨h0, by omega⟩]
      simp only [bL]
      rw [h.2.2.2.2.1 c, if_neg (fun y => z (cmp_eq.mp y)), w32_eq (by omega) (by omega)]
theorem o_isName (h : RdM w m t n most p) : Ex pro (d + 3) 164 w [rV m] = some (some (iV (if isNm t n most p then 1 else 0)), w) := by
  have kk := h.1.1.1
  by_cases c : tkK t n most p = 2
  · refine xX12_isName (Rn.cut ?_ (l_isName (d := d) h c 23 0 (by omega) (by omega) (fun j j0 j1 => by omega)))
    rw [eX12_isName_0, if_pos kk, h.2.1, if_pos c]
  · refine xX12_isName (Rn.ret ?_)
    rw [eX12_isName_0, if_pos kk, h.2.1, if_neg c, if_neg (fun y => c y.1)]
/-- the reference's fault and its place -/
abbrev FlM (w : sW) (m fa pl : Int) : Prop := gv w m 10 = fa ∧ gv w m 11 = pl
abbrev bdM (m r j : Int) : Prop := r = m ∧ (j = 10 ∨ j = 11)
theorem o_bad (h : RdM w m t n most p) (e : Int) : ∃ w', Ex pro (d + 1) 165 w [rV m, iV e] = some (some (iV 0), w') ∧ RdM w' m t n most p ∧ FlM w' m (if tkK t n most p = 1 then 1 else e) (tkP t n most p) ∧ Mf w w' (bdM m) := by
  have k := h.1.1.1
  have m1 := Mf.svI w m 10 (if tkK t n most p = 1 then 1 else e)
  have m2 := Mf.svI (sv w m 10 (if tkK t n most p = 1 then 1 else e)) m 11 (tkP t n most p)
  have mm : Mf w (sv (sv w m 10 (if tkK t n most p = 1 then 1 else e)) m 11 (tkP t n most p)) (bdM m) := (m1.trans m2).mono (fun r j z => by omega)
  have g6 : ∀ v, gv (sv w m 10 v) m 6 = tkP t n most p := fun v => by rw [gvS, if_neg (by omega)]; exact h.2.2.1
  have k1 : ∀ v, kd (sv w m 10 v) m = 10 := fun _ => k
  refine ⟨_, xX12_bad (Rn.ret ?_), h.mf mm (fun j hj => by omega) (fun j => by omega), ⟨by rw [m2.gvE (by omega), gvSS], gvSS _ _ _ _⟩, mm⟩
  rw [eX12_bad_0, if_pos k, h.2.1]
  by_cases c : tkK t n most p = 1
  · rw [if_pos c, if_pos k, wl_eq, if_pos (k1 _), if_pos (k1 _), g6, wl_eq, if_pos c]
  · rw [if_neg c, if_pos k, wl_eq, if_pos (k1 _), if_pos (k1 _), g6, wl_eq, if_neg c]
theorem o_next (h : RdM w m t n most p) (h2 : 2 ≤ tkK t n most p) (h0 : 0 ≤ p) : ∃ w', Ex pro (d + 2) 159 w [rV m] = some (none, w') ∧ RdM w' m t n most (tkT t n most p) ∧ Mf w w' (fun r j => r = m ∧ goJ j) := by
  have ti := tk_in h2
  exact o_go h.1 (h.2.2.2.1 h2) (by omega) ti.2.2.2
abbrev rdMm (m r j : Int) : Prop := r = m ∧ 5 ≤ j ∧ j ≤ 13
theorem o_numY (h : RdM w m t n most p) (h0 : 0 ≤ p) {a b : Int} (y : atN t n most p a b) : ∃ w', Ex pro (d + 3) 166 w [rV m, iV a, iV b] = some (some (iV 1), w') ∧ RdM w' m t n most (tkT t n most p) ∧ gv w' m 13 = tkN t n most p ∧ gv w' m 10 = gv w m 10 ∧ Mf w w' (rdMm m) := by
  have k := h.1.1.1
  have g8 := h.2.2.2.2.2.1 y.1
  have m13 := Mf.svI w m 13 (tkN t n most p)
  have R13 : RdM (sv w m 13 (tkN t n most p)) m t n most p := h.mf m13 (fun j hj => by omega) (fun j => by omega)
  obtain ⟨w', a1, a2, a3⟩ := o_next (d := d) R13 (by omega) h0
  refine ⟨w', xX12_readNumber (Rn.ret ?_), a2, by rw [a3.gvE (by omega), gvSS], by rw [a3.gvE (by omega), m13.gvE (by omega)], (m13.trans a3).mono (fun r j z => by omega)⟩
  rw [eX12_readNumber_0, if_pos k, h.2.1, if_pos y.1, if_pos k, g8, o_isIn]
  simp only [bI, ite10]
  rw [if_pos y.2, if_pos k, if_pos k, g8, wl_eq, if_pos R13.1.1.1, a1]
  simp only [bN]
theorem o_numN (h : RdM w m t n most p) {a b : Int} (y : ¬ atN t n most p a b) : ∃ w', Ex pro (d + 3) 166 w [rV m, iV a, iV b] = some (some (iV 0), w') ∧ RdM w' m t n most p ∧ FlM w' m (whyNm t n most p) (tkP t n most p) ∧ Mf w w' (rdMm m) := by
  have k := h.1.1.1
  unfold whyNm
  by_cases k3 : tkK t n most p = 3
  · have g8 := h.2.2.2.2.2.1 k3
    obtain ⟨w', a1, a2, a3, a4⟩ := o_bad (d := d + 1) h 2
    rw [if_neg (by omega)] at a3
    rw [if_pos k3]
    refine ⟨w', xX12_readNumber (Rn.ret ?_), a2, a3, a4.mono (fun r j z => by omega)⟩
    rw [eX12_readNumber_0, if_pos k, h.2.1, if_pos k3, if_pos k, g8, o_isIn]
    simp only [bI, ite10]
    rw [if_neg (fun z => y ⟨k3, z⟩), if_pos k, a1]
    simp only []
    rw [if_pos (Or.inl trivial)]
  · obtain ⟨w', a1, a2, a3, a4⟩ := o_bad (d := d + 1) h 1
    rw [show (if tkK t n most p = 1 then (1 : Int) else 1) = 1 by split <;> rfl] at a3
    rw [if_neg k3]
    refine ⟨w', xX12_readNumber (Rn.ret ?_), a2, a3, a4.mono (fun r j z => by omega)⟩
    rw [eX12_readNumber_0, if_pos k, h.2.1, if_neg k3, if_pos k, a1]
    simp only [bI]
    rw [if_pos (Or.inl trivial)]
theorem o_endY (h : RdM w m t n most p) (h0 : 0 ≤ p) (y : atS t n most p 59) : ∃ w', Ex pro (d + 3) 167 w [rV m] = some (some (iV 1), w') ∧ RdM w' m t n most (tkT t n most p) ∧ gv w' m 10 = gv w m 10 ∧ Mf w w' (rdMm m) := by
  have k := h.1.1.1
  obtain ⟨w', a1, a2, a3⟩ := o_next (d := d) h (by omega) h0
  refine ⟨w', xX12_readEnd (Rn.ret ?_), a2, a3.gvE (by omega), a3.mono (fun r j z => by omega)⟩
  rw [eX12_readEnd_0, if_pos k, o_isSign h]
  simp only [bI, ite10]
  rw [if_pos y, if_pos k, a1]
  simp only [bN]
theorem o_endN (h : RdM w m t n most p) (y : ¬ atS t n most p 59) : ∃ w', Ex pro (d + 3) 167 w [rV m] = some (some (iV 0), w') ∧ RdM w' m t n most p ∧ FlM w' m 1 (tkP t n most p) ∧ Mf w w' (rdMm m) := by
  have k := h.1.1.1
  obtain ⟨w', a1, a2, a3, a4⟩ := o_bad (d := d + 1) h 1
  rw [show (if tkK t n most p = 1 then (1 : Int) else 1) = 1 by split <;> rfl] at a3
  refine ⟨w', xX12_readEnd (Rn.ret ?_), a2, a3, a4.mono (fun r j z => by omega)⟩
  rw [eX12_readEnd_0, if_pos k, o_isSign h]
  simp only [bI, ite10]
  rw [if_neg y, if_pos k, a1]
  simp only []
  rw [if_pos (Or.inl trivial)]
theorem o_begin (hk : kd w m = 10) (hT : TpI w m 1 2 (m + 1) t n) (hm : 0 ≤ most ∧ most ≤ 940) : ∃ w', Ex pro (d + 3) 168 w [rV m, iV most] = some (none, w') ∧ RdM w' m t n most 0 ∧ gv w' m 10 = 0 ∧ TpI w' m 1 2 (m + 1) t 0 ∧ Mf w w' (fun r j => r = m ∧ (j = 0 ∨ (2 ≤ j ∧ j ≤ 12))) := by
  have m0 := Mf.svI w m 0 0
  have T0 : TpI (sv w m 0 0) m 1 2 (m + 1) t n := hT.mf m0 (by omega) (by omega) (fun j => by omega)
  have tk := o_take (d := d + 1) (show kd (sv w m 0 0) m = 10 from hk) T0
  have m2 := Mf.svI (sv w m 0 0) m 2 0
  have T2 := T0.zero
  have m3 := Mf.svI (sv (sv w m 0 0) m 2 0) m 3 n
  have m4 := Mf.svI (sv (sv (sv w m 0 0) m 2 0) m 3 n) m 4 most
  have m10 := Mf.svI (sv (sv (sv (sv w m 0 0) m 2 0) m 3 n) m 4 most) m 10 0
  have m5 := Mf.svI (sv (sv (sv (sv (sv w m 0 0) m 2 0) m 3 n) m 4 most) m 10 0) m 5 0
  have mm : Mf (sv (sv w m 0 0) m 2 0) (sv (sv (sv (sv (sv (sv w m 0 0) m 2 0) m 3 n) m 4 most) m 10 0) m 5 0) (fun r j => r = m ∧ (j = 3 ∨ j = 4 ∨ j = 10 ∨ j = 5)) := (m3.trans (m4.trans (m10.trans m5))).mono (fun r j z => by omega)
  have T5 : TpI (sv (sv (sv (sv (sv (sv w m 0 0) m 2 0) m 3 n) m 4 most) m 10 0) m 5 0) m 1 2 (m + 1) t 0 := T2.mf mm (by omega) (by omega) (fun j => by omega)
  have X5 : MTx (sv (sv (sv (sv (sv (sv w m 0 0) m 2 0) m 3 n) m 4 most) m 10 0) m 5 0) m t n most := ⟨⟨hk, T5.1.1, by rw [m5.gvE (by omega), m10.gvE (by omega), m4.gvE (by omega), gvSS], by rw [m5.gvE (by omega), m10.gvE (by omega), gvSS]⟩, ⟨T5.1.2.1, T5.1.2.2.1⟩, hT.2.2.1, hm, T5.2.2.2⟩
  obtain ⟨w', b1, b2, b3⟩ := o_go (d := d) (p := 0) X5 (gvSS _ _ _ _) (by omega) hT.2.2.1.1
  refine ⟨w', xX12_begin (Rn.ret ?_), b2, by rw [b3.gvE (by omega), m5.gvE (by omega), gvSS], T5.mf b3 (by omega) (by omega) (fun j => by omega), ((m0.trans m2).trans (mm.trans b3)).mono (fun r j z => by omega)⟩
  rw [eX12_begin_0, if_pos hk, wl_eq, if_pos (show kd (sv w m 0 0) m = 10 from hk), tk]
  simp only [bI, wl_eq, kdS, hk, if_true]
  rw [b1]
  simp only [bN]
end MW
