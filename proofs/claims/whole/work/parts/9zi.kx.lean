/-! test -/
theorem KX.mv {K : LC} {u U : State} (hvm : u.vm.Alike U.vm) (hw : ∀ w ∈ thrW, w.before #[] u = true → w.before #[] U = true) (hs : ∀ {k : Nat} {tx : String} {sa : Nat}, vk_R "BitRopes" k tx sa u → vk_R "BitRopes" k tx sa U) (h : KX K u) : KX K U :=
  ⟨vx_Zq.moved hvm h.1, vx_Zq.moved hvm h.2.1, fun q hq => (h.2.2.1 q hq).imp fun _ z => hs z, fun w hw' => hw w hw' (h.2.2.2 w hw')⟩
theorem thrW_ot : ∀ w ∈ thrW, w.onTables = true ∧ w.keepsFace = true := by
  intro w hw
  simp only [thrW, List.mem_cons, List.not_mem_nil, or_false] at hw
  rcases hw with rfl | rfl | rfl | rfl <;> exact ⟨rfl, rfl⟩
theorem KX.warm {K : LC} {u U : State} (hW : u.WarmedH U.vm) (h : KX K u) : KX K U :=
  KX.mv hW.alike (fun w hw h1 => va_tabs (u := u.setVm U.vm) (thrW_ot w hw).1 rfl (Cond.before_shiftedFace (State.Shifted.of_warmed hW) w (thrW_ot w hw).2 h1)) (fun z => vk_R.warm hW z) h
theorem KX.same {K : LC} {u U : State} (hv : u.vm = U.vm) (h : KX K u) : KX K U :=
  KX.mv (by rw [hv]; exact Vm.Alike.refl _) (fun w hw h1 => va_tabs (thrW_ot w hw).1 hv h1) (fun z => vk_R.same hv.symm z) h
theorem l_str : ∀ i, i < 4 → lw_tbl[([1066, 1105, 1117, 1125] : List Nat).getD i 0]? = some (.stringRef "BitRopes" (strW.getD i (0, "")).1 (strW.getD i (0, "")).2) := by decide +kernel
theorem law_KX {s : State} {b : Nat} {K : LC} (hts : ∀ w ∈ lw_tbl, w.before #[Value.ref b] s = true) (hgv : (Jvm.Cond.and given_1 narrow_1).before #[Value.ref b] s = true) (hH : lcH K = s.heap) : KX K s := by
  have hfl : ∀ c ∈ flG, c.before #[Value.ref b] s = true := flat_of_before _ hgv
  have hA : ∀ a : Nat, a < s.heap.size → ¬ oldA K a := fun a ha => by unfold oldA; rw [hH]; exact Nat.not_le.mpr ha
  have hini := hts _ (List.mem_of_getElem? (show lw_tbl[107]? = some (Cond.initialized Bundle.tN) by decide +kernel))
  unfold KX
  rw [hH]
  refine ⟨vx_Zqof (hts _ (List.mem_of_getElem? (show lw_tbl[1054]? = some (Cond.laysStatic Bundle.tN "UNASSIGNED_STACK" Bundle.steD) by decide +kernel))) hini (hfl _ (List.mem_of_getElem? (show flG[373]? = some (Cond.isRef (.static Bundle.tN "UNASSIGNED_STACK" Bundle.steD)) by decide +kernel))) hA,
    vx_Zqof (hts _ (List.mem_of_getElem? (show lw_tbl[1056]? = some (Cond.laysStatic Bundle.tN "SUPPRESSED_SENTINEL" Bundle.listD) by decide +kernel))) hini (hfl _ (List.mem_of_getElem? (show flG[374]? = some (Cond.isRef (.static Bundle.tN "SUPPRESSED_SENTINEL" Bundle.listD)) by decide +kernel))) hA, fun q hq => ?_, fun w hw => ?_⟩
  · obtain ⟨i, hi⟩ := List.getElem?_of_mem hq
    have hi4 : i < 4 := (List.getElem?_eq_some_iff.mp hi).1
    have h1 := hts _ (List.mem_of_getElem? (l_str i hi4))
    rw [List.getD_eq_getElem?_getD, hi] at h1
    have h2 : (Cond.stringRef "BitRopes" q.1 q.2).before #[Value.ref b] s = true := h1
    have hcur : ∃ cur, s.vm.findClass "BitRopes" = some cur := by
      have h3 := h2
      simp only [Cond.before, Cond.holds, Cond.value] at h3
      cases hc : s.vm.findClass "BitRopes" with
      | none => simp [hc] at h3
      | some cur => exact ⟨cur, rfl⟩
    obtain ⟨cur, hcur⟩ := hcur
    obtain ⟨_, _, _, a, -, -, -, -, -, hev⟩ := Cond.stringRef_spec hcur h2
    exact ⟨a, vk_R.of h2 hev⟩
  · simp only [thrW, List.mem_cons, List.not_mem_nil, or_false] at hw
    rcases hw with rfl | rfl | rfl | rfl
    · exact va_tabs rfl rfl (hts _ (List.mem_of_getElem? (show lw_tbl[1029]? = some (Cond.castable NSx NSx) by decide +kernel)))
    · exact va_tabs rfl rfl (hts _ (List.mem_of_getElem? (show lw_tbl[1031]? = some (Cond.declares (Bundle.initS REx)) by decide +kernel)))
    · exact va_tabs rfl rfl (hts _ (List.mem_of_getElem? (show lw_tbl[1033]? = some (Cond.declares (Bundle.initS EEx)) by decide +kernel)))
    · exact va_tabs rfl rfl (hts _ (List.mem_of_getElem? (show lw_tbl[1035]? = some (Cond.declares (Bundle.initS Bundle.tN)) by decide +kernel)))
