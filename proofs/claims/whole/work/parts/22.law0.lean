/-! ===== the law's entry: what the Statement gives of the class tables and the statics (printed by wip/whole/law0.py) ===== -/
def flG : List Jvm.Cond := flatC (Jvm.Cond.and given_1 narrow_1)
def hLay : List Nat := [418, 434, 486, 667, 696, 729, 739, 686, 692, 677, 679, 967, 969, 943, 953, 955, 957, 959, 995, 997, 999, 1002, 1785]
def hInst : List Nat := [280, 846, 307, 123, 200, 184, 251, 176, 115, 1141]
def hExa : List Nat := [32, 37, 43, 50, 100, 113, 127, 77, 88, 58, 67, 232, 253, 142, 158, 175, 193, 212, 275, 298, 322, 347, 375]
def hFc : List Nat := [34, 39, 45, 52, 102, 115, 129, 79, 90, 60, 69, 234, 255, 144, 160, 177, 195, 214, 277, 300, 324, 349, 377]
def hFs : List Nat := [35, 40, 46, 53, 103, 116, 130, 80, 91, 61, 70, 235, 256, 145, 161, 178, 196, 215, 278, 301, 325, 350, 378]
def hFb : List Nat := [36, 41, 47, 54, 104, 117, 131, 81, 92, 62, 71, 236, 257, 146, 162, 179, 197, 216, 279, 302, 326, 351, 379]
def hEl : List Nat := [9, 10, 11, 12, 13, 14, 15, 16, 17, 18, 19, 20, 21, 22, 23, 24, 25, 26, 27, 28, 29, 30, 31]
def hNe : List (List (Nat × Bool)) := [[], [(42, true)], [(48, true), (49, true)], [(55, true), (56, true), (57, true)], [(105, true), (106, true), (107, true), (108, true)], [(118, true), (119, true), (120, true), (121, true), (126, true)], [(132, true), (133, true), (134, true), (135, true), (140, true), (141, true)], [(82, true), (83, true), (84, true), (85, true), (111, false), (124, false), (138, false)], [(93, true), (94, true), (95, true), (96, true), (112, false), (125, false), (139, false), (99, true)], [(63, true), (64, true), (65, true), (66, true), (109, false), (122, false), (136, false), (86, false), (97, false)], [(72, true), (73, true), (74, true), (75, true), (110, false), (123, false), (137, false), (87, false), (98, false), (76, true)], [(237, true), (238, true), (239, true), (240, true), (245, true), (246, true), (247, true), (243, true), (244, true), (241, true), (242, true)], [(258, true), (259, true), (260, true), (261, true), (266, true), (267, true), (268, true), (264, true), (265, true), (262, true), (263, true), (274, true)], [(147, true), (148, true), (149, true), (150, true), (155, true), (156, true), (157, true), (153, true), (154, true), (151, true), (152, true), (248, false), (269, false)], [(163, true), (164, true), (165, true), (166, true), (171, true), (172, true), (173, true), (169, true), (170, true), (167, true), (168, true), (249, false), (270, false), (174, true)], [(180, true), (181, true), (182, true), (183, true), (188, true), (189, true), (190, true), (186, true), (187, true), (184, true), (185, true), (250, false), (271, false), (191, true), (192, true)], [(198, true), (199, true), (200, true), (201, true), (206, true), (207, true), (208, true), (204, true), (205, true), (202, true), (203, true), (251, false), (272, false), (209, true), (210, true), (211, true)], [(217, true), (218, true), (219, true), (220, true), (225, true), (226, true), (227, true), (223, true), (224, true), (221, true), (222, true), (252, false), (273, false), (228, true), (229, true), (230, true), (231, true)], [(280, true), (281, true), (282, true), (283, true), (288, true), (289, true), (290, true), (286, true), (287, true), (284, true), (285, true), (296, true), (297, true), (291, true), (292, true), (293, true), (294, true), (295, true)], [(303, true), (304, true), (305, true), (306, true), (311, true), (312, true), (313, true), (309, true), (310, true), (307, true), (308, true), (319, true), (320, true), (314, true), (315, true), (316, true), (317, true), (318, true), (321, true)], [(327, true), (328, true), (329, true), (330, true), (335, true), (336, true), (337, true), (333, true), (334, true), (331, true), (332, true), (343, true), (344, true), (338, true), (339, true), (340, true), (341, true), (342, true), (345, true), (346, true)], [(352, true), (353, true), (354, true), (355, true), (360, true), (361, true), (362, true), (358, true), (359, true), (356, true), (357, true), (368, true), (369, true), (363, true), (364, true), (365, true), (366, true), (367, true), (370, true), (371, true), (372, true)], [(380, true), (381, true), (382, true), (383, true), (388, true), (389, true), (390, true), (386, true), (387, true), (384, true), (385, true), (396, true), (397, true), (391, true), (392, true), (393, true), (394, true), (395, true), (398, true), (399, true), (400, true), (401, true)]]
abbrev sTm (i : Nat) : Term := .static RX10 (enumN.getD i "") "LBitRopes$Word;"
abbrev aTm : Term := .static RX10 "ALL" "[LBitRopes$Word;"
theorem mem_hint {α : Type} {L : List α} {h : Nat → Nat} {f : Nat → α} {n : Nat} (q : ∀ i, i < n → L[h i]? = some (f i)) : ∀ i, i < n → f i ∈ L := fun i hi => List.mem_of_getElem? (q i hi)
theorem l_lay : ∀ i, i < 23 → lw_tbl[hLay.getD i 0]? = some (.laysStatic RX10 (enumN.getD i "") "LBitRopes$Word;") := by decide +kernel
theorem l_inst : ∀ i, i < 10 → lw_tbl[hInst.getD i 0]? = some (.instantiable (clN i).1 (clN i).2.2) := by decide +kernel
theorem l_exa : ∀ i, i < 23 → flG[hExa.getD i 0]? = some (.exactly (sTm i) RX10) := by decide +kernel
theorem l_fc : ∀ i, i < 23 → flG[hFc.getD i 0]? = some (.eq (.field (sTm i) RX10 "code" "J") (.long (Int64.ofInt (wWd.getD i (0, 0, 0)).1))) := by decide +kernel
theorem l_fs : ∀ i, i < 23 → flG[hFs.getD i 0]? = some (.eq (.field (sTm i) RX10 "sort" "I") (.int (Int32.ofInt (wWd.getD i (0, 0, 0)).2.1))) := by decide +kernel
theorem l_fb : ∀ i, i < 23 → flG[hFb.getD i 0]? = some (.eq (.field (sTm i) RX10 "base" "I") (.int (Int32.ofInt (wWd.getD i (0, 0, 0)).2.2))) := by decide +kernel
theorem l_el : ∀ i, i < 23 → flG[hEl.getD i 0]? = some (.eq (.elem aTm (.int (Int32.ofNat i))) (sTm i)) := by decide +kernel
theorem l_ne : ∀ i, i < 23 → ∀ j, j < i → flG[((hNe.getD i []).getD j (0, true)).1]? = some (bif ((hNe.getD i []).getD j (0, true)).2 then .not (.eq (sTm j) (sTm i)) else .not (.eq (sTm i) (sTm j))) := by decide +kernel
theorem l_arr : flG[6]? = some (.arrayOf aTm (.object RX10)) := by decide +kernel
theorem l_len : flG[7]? = some (.eq (.length aTm) (.int (Int32.ofNat 23))) := by decide +kernel
theorem l_layA : lw_tbl[408]? = some (.laysStatic RX10 "ALL" "[LBitRopes$Word;") := by decide +kernel
theorem l_ini : lw_tbl[104]? = some (.initialized RX10) := by decide +kernel
theorem l_nest : ∀ i, i < 7 → lw_tbl[([124, 252, 281, 308, 185, 201, 495] : List Nat).getD i 0]? = nestW[i]? := by decide +kernel
def tyA (t : Nat) : FieldType := ((tysO (fun _ => 0)).getD t (0, .int)).2
theorem l_acl : ∀ i, i < 4 → lw_tbl[([174, 199, 198, 278] : List Nat).getD i 0]? = some (.arrayClass (tyA i)) := by decide +kernel
def cAO (i : Nat) : String := [RX5, RX8, RX7, RX10].getD i ""
theorem l_aov : ∀ i, i < 4 → lw_tbl[([182, 313, 325, 257] : List Nat).getD i 0]? = some (.arrayOver (.object (cAO i))) := by decide +kernel
theorem l_str : ∀ i, i < 4 → lw_tbl[([1066, 1105, 1117, 1125] : List Nat).getD i 0]? = some (.stringRef "BitRopes" (strW.getD i (0, "")).1 (strW.getD i (0, "")).2) := by decide +kernel
theorem law_KX {s : State} {b : Nat} {K : LC} (hts : ∀ w ∈ lw_tbl, w.before #[Value.ref b] s = true) (hgv : (Jvm.Cond.and given_1 narrow_1).before #[Value.ref b] s = true) (hH : lcH K = s.heap) : KX K s := by
  have hfl : ∀ c ∈ flG, c.before #[Value.ref b] s = true := flat_of_before _ hgv
  have hA : ∀ a : Nat, a < s.heap.size → ¬ oldA K a := fun a ha => by unfold oldA; rw [hH]; exact Nat.not_le.mpr ha
  have hini := hts _ (List.mem_of_getElem? (show lw_tbl[107]? = some (Cond.initialized Bundle.tN) by decide +kernel))
  unfold KX
  rw [hH]
  refine ⟨vx_Zqof (hts _ (List.mem_of_getElem? (show lw_tbl[1054]? = some (Cond.laysStatic Bundle.tN "UNASSIGNED_STACK" Bundle.steD) by decide +kernel))) hini (hfl _ (List.mem_of_getElem? (show flG[373]? = some (Cond.isRef (.static Bundle.tN "UNASSIGNED_STACK" Bundle.steD)) by decide +kernel))) hA,
    vx_Zqof (hts _ (List.mem_of_getElem? (show lw_tbl[1056]? = some (Cond.laysStatic Bundle.tN "SUPPRESSED_SENTINEL" Bundle.listD) by decide +kernel))) hini (hfl _ (List.mem_of_getElem? (show flG[374]? = some (Cond.isRef (.static Bundle.tN "SUPPRESSED_SENTINEL" Bundle.listD)) by decide +kernel))) hA, fun q hq => ?_, fun w hw => ?_⟩
  · obtain ⟨i, hi⟩ := List.getElem?_of_mem hq
    have hi4 : i < 4 := (List.getElem?_eq_some_iff.mp hi).1
    have h1 := hts _ (List.mem_of_getElem? (l_str i hi4))
    rw [List.getD_eq_getElem?_getD, hi] at h1
    have h2 : (Cond.stringRef "BitRopes" q.1 q.2).before #[Value.ref b] s = true := h1
    have hcur : ∃ cur, s.vm.findClass "BitRopes" = some cur := by
      have h3 := h2
      simp only [Cond.before, Cond.holds, Cond.value] at h3
      cases hc : s.vm.findClass "BitRopes" with
      | none => simp [hc] at h3
      | some cur => exact ⟨cur, rfl⟩
    obtain ⟨cur, hcur⟩ := hcur
    obtain ⟨_, _, _, a, -, -, -, -, -, hev⟩ := Cond.stringRef_spec hcur h2
    exact ⟨a, vk_R.of h2 hev⟩
  · simp only [thrW, List.mem_cons, List.not_mem_nil, or_false] at hw
    rcases hw with rfl | rfl | rfl | rfl
    · exact va_tabs rfl rfl (hts _ (List.mem_of_getElem? (show lw_tbl[1029]? = some (Cond.castable NSx NSx) by decide +kernel)))
    · exact va_tabs rfl rfl (hts _ (List.mem_of_getElem? (show lw_tbl[1031]? = some (Cond.declares (Bundle.initS REx)) by decide +kernel)))
    · exact va_tabs rfl rfl (hts _ (List.mem_of_getElem? (show lw_tbl[1033]? = some (Cond.declares (Bundle.initS EEx)) by decide +kernel)))
    · exact va_tabs rfl rfl (hts _ (List.mem_of_getElem? (show lw_tbl[1035]? = some (Cond.declares (Bundle.initS Bundle.tN)) by decide +kernel)))
theorem law_KN {s : State} {b L : Nat} {xs : Nat → Int32} (hts : ∀ w ∈ lw_tbl, w.before #[Value.ref b] s = true) (hX : va_X b L xs s s.heap) (hbl : b < s.heap.size) (hgv : (Jvm.Cond.and given_1 narrow_1).before #[Value.ref b] s = true) : ∃ K : LC, lcH K = s.heap ∧ lcB K = b ∧ lcL K = L ∧ lcX K = xs ∧ KN K s := by
  have hfl : ∀ c ∈ flG, c.before #[Value.ref b] s = true := flat_of_before _ hgv
  have hA : ∀ a : Nat, a < s.heap.size → ¬ (fun q : Nat => s.heap.size ≤ q) a := fun a ha => Nat.not_le.mpr ha
  have hk : ∀ n : Nat, ∃ q : ClassId × (Nat → Nat), n < 10 → u_Kn s (clN n).1 (clN n).2.1 (clN n).2.2 q.1 q.2 := by
    intro n
    by_cases hn : n < 10
    · obtain ⟨cC, iS, h⟩ := u_known (C := (clN n).1) (T := (clN n).2.1) (N := (clN n).2.2) (n := (clN n).2.2) hts (fun w hw => (List.mem_filter.mp (cl_ws hn w hw)).1) (hts _ (List.mem_of_getElem? (l_inst n hn)))
      exact ⟨(cC, iS), fun _ => h⟩
    · exact ⟨(0, fun _ => 0), fun h => absurd h hn⟩
  obtain ⟨fK, hfK⟩ := Classical.axiomOfChoice hk
  have ha : ∀ t : Nat, ∃ c : ClassId, t < 8 → ArrOfT s c (tyA t) ∧ va_RA s c (tyA t) := by
    intro t
    by_cases h4 : t < 4
    · obtain ⟨c, k, comp, e1, e2, e3⟩ := Cond.arrayClass_spec (hts _ (List.mem_of_getElem? (l_acl t h4)))
      refine ⟨c, fun _ => ⟨fun n z => ⟨fun k h => (by cases h), k, e2, comp, e3⟩, ?_⟩⟩
      rcases (show t = 0 ∨ t = 1 ∨ t = 2 ∨ t = 3 by omega) with rfl | rfl | rfl | rfl <;> exact e1
    · by_cases h8 : t < 8
      · have hty : tyA t = .object (cAO (t - 4)) := by
          rcases (show t = 4 ∨ t = 5 ∨ t = 6 ∨ t = 7 by omega) with rfl | rfl | rfl | rfl <;> rfl
        obtain ⟨comp, c, k, e1, -, e2, e3, e4⟩ := Cond.arrayOver_spec (hts _ (List.mem_of_getElem? (l_aov (t - 4) (by omega))))
        refine ⟨c, fun _ => ?_⟩
        rw [hty]
        exact ⟨fun n z => ⟨fun k h => (by cases h), k, e2, comp, e3⟩, k, comp, e2, e3, e1, e4⟩
      · exact ⟨0, fun h => absurd h h8⟩
  obtain ⟨cA, hcA⟩ := Classical.axiomOfChoice ha
  have hini := hts _ (List.mem_of_getElem? l_ini)
  obtain ⟨ad, hEn, hev⟩ := va_Enof2 (E := RX10) (d := "LBitRopes$Word;") (nm := enumN) (F := []) (A := fun q : Nat => s.heap.size ≤ q) (fun i hi => hts _ (List.mem_of_getElem? (l_lay i hi))) hini (fun i hi => hfl _ (List.mem_of_getElem? (l_exa i hi))) (fun q hq => by cases hq)
    (fun i j hi hj hne => by
      rcases Nat.lt_or_gt_of_ne hne with h | h
      · have z := hfl _ (List.mem_of_getElem? (l_ne j hj i h))
        cases hb : ((hNe.getD j []).getD i (0, true)).2 with
        | true => rw [hb] at z; exact Or.inl z
        | false => rw [hb] at z; exact Or.inr z
      · have z := hfl _ (List.mem_of_getElem? (l_ne i hi j h))
        cases hb : ((hNe.getD i []).getD j (0, true)).2 with
        | true => rw [hb] at z; exact Or.inr z
        | false => rw [hb] at z; exact Or.inl z) hA
  have hE1 := va_Efof (N := 23) (v := fun k => .long (Int64.ofInt (wWd.getD k (0, 0, 0)).1)) hev (fun i hi => hfl _ (List.mem_of_getElem? (l_fc i hi))) (fun i hi => rfl) hA
  have hE2 := va_Efof (N := 23) (v := fun k => .int (Int32.ofInt (wWd.getD k (0, 0, 0)).2.1)) hev (fun i hi => hfl _ (List.mem_of_getElem? (l_fs i hi))) (fun i hi => rfl) hA
  have hE3 := va_Efof (N := 23) (v := fun k => .int (Int32.ofInt (wWd.getD k (0, 0, 0)).2.2)) hev (fun i hi => hfl _ (List.mem_of_getElem? (l_fb i hi))) (fun i hi => rfl) hA
  obtain ⟨t, ht, hT⟩ := va_Tof (tm := aTm) (ty := .object RX10) (N := 23) (f := fun j => .ref (ad j)) (by decide) (hfl _ (List.mem_of_getElem? l_arr)) (va_eqt (hfl _ (List.mem_of_getElem? l_len))) (fun j hj => va_eqv (hfl _ (List.mem_of_getElem? (l_el j hj))) (hev j hj)) hA
  have hZ := va_Zref (hts _ (List.mem_of_getElem? l_layA)) hini ht hA
  refine ⟨((fun n => (fK n).1, fun n => (fK n).2), cA, ad, t, b, L, xs, s.heap), rfl, rfl, rfl, rfl, ⟨fun c q hq => ?_, fun k q hq => ?_⟩, hEn, hE1, hE2, hE3, hZ, hT, ⟨hX, hbl⟩, fun w hw => ?_, fun C hC => ?_, law_KX hts hgv rfl⟩
  · have hc : c < 10 := (List.getElem?_eq_some_iff.mp hq).1
    rw [cl_at hc] at hq
    cases hq
    exact hfK c hc
  · have hk8 : k < 8 := (List.getElem?_eq_some_iff.mp hq).1
    have h := hcA k hk8
    rcases (show k = 0 ∨ k = 1 ∨ k = 2 ∨ k = 3 ∨ k = 4 ∨ k = 5 ∨ k = 6 ∨ k = 7 by omega) with rfl | rfl | rfl | rfl | rfl | rfl | rfl | rfl <;> (cases hq; exact h)
  · obtain ⟨i, hi⟩ := List.getElem?_of_mem hw
    have hi7 : i < 7 := (List.getElem?_eq_some_iff.mp hi).1
    have hm : w ∈ lw_tbl := List.mem_of_getElem? ((l_nest i hi7).trans hi)
    exact nestW_all (P := fun w => w ∈ lw_tbl → va_Nw w s) (fun _ _ _ _ h => va_Nw.of rfl (hts _ h)) w hw hm
  · simp only [List.mem_cons, List.not_mem_nil, or_false] at hC
    rcases hC with rfl | rfl | rfl | rfl
    · exact va_AO.of (hts _ (List.mem_of_getElem? (l_aov 0 (by omega))))
    · exact va_AO.of (hts _ (List.mem_of_getElem? (l_aov 1 (by omega))))
    · exact va_AO.of (hts _ (List.mem_of_getElem? (l_aov 2 (by omega))))
    · exact va_AO.of (hts _ (List.mem_of_getElem? (l_aov 3 (by omega))))
