/-! ===== the law's loop (printed by wip/whole/loop.py) ===== -/
section LP
variable {w : sW} {S : St} {L i : Int}
/-- one call -/
theorem l_call (h : LwS w S L) (hi : 0 ≤ i ∧ i + 6 ≤ L) (hL : L ≤ 3072) : ∃ w2 S2, LwS w2 S2 L ∧ uc w2 ≤ uc w + 41 ∧ us w2 ≤ us w + 4010 ∧ ∀ res, Rn (Ex pro 50) mL_law (1946, lwL i, [], w2) res → Rn (Ex pro 50) mL_law (23, lwL i, [], w) res := by
  have s := h.2.2
  have lt : ¬ w32 (L - 6) < i := by rw [w32_eq (by omega) (by omega)]; omega
  have ib : kd w 25 = 20 ∧ 0 ≤ i ∧ i < ln w 25 := ⟨s.1.1, by omega, by rw [s.1.2.1]; omega⟩
  have hd : ∀ pc : Nat, CaseL w L pc i → sg (Ex pro 50) mL_law 2000 23 (lwL i) [] w = some (.inl (pc, lwL i, [], w)) → ∃ w2 S2, LwS w2 S2 L ∧ uc w2 ≤ uc w + 41 ∧ us w2 ≤ us w + 4010 ∧ ∀ res, Rn (Ex pro 50) mL_law (1946, lwL i, [], w2) res → Rn (Ex pro 50) mL_law (23, lwL i, [], w) res := fun pc c e => by
    obtain ⟨w2, S2, a1, a2, a3, a4⟩ := c
    exact ⟨w2, S2, a1, a2, a3, fun res r => Rn.cut e (a4 res r)⟩
  have k20 : 20 ≤ kd w 25 ∧ kd w 25 ≤ 27 := by rw [s.1.1]; omega
  have eq := eL_law_23 (Ex pro 50) w 25 32 91 107 i
  rw [if_pos k20, s.1.2.1, if_neg lt] at eq
  rw [if_pos (by rw [s.1.2.1] at ib; exact ib)] at eq
  generalize f_iand (gv w 25 i) 63 = c at eq
  by_cases c0 : c = 0
  · rw [if_pos c0] at eq
    exact hd 240 (lc_feed h hi hL) eq
  rw [if_neg c0] at eq
  by_cases c1 : c = 1
  · rw [if_pos c1] at eq
    exact hd 313 (lc_end h hi hL) eq
  rw [if_neg c1] at eq
  by_cases c2 : c = 2
  · rw [if_pos c2] at eq
    exact hd 338 (lc_room h hi hL) eq
  rw [if_neg c2] at eq
  by_cases c3 : c = 3
  · rw [if_pos c3] at eq
    exact hd 351 (lc_fault h hi hL) eq
  rw [if_neg c3] at eq
  by_cases c4 : c = 4
  · rw [if_pos c4] at eq
    exact hd 364 (lc_size h hi hL) eq
  rw [if_neg c4] at eq
  by_cases c5 : c = 5
  · rw [if_pos c5] at eq
    exact hd 389 (lc_bit h hi hL) eq
  rw [if_neg c5] at eq
  by_cases c6 : c = 6
  · rw [if_pos c6] at eq
    exact hd 426 (lc_rank h hi hL) eq
  rw [if_neg c6] at eq
  by_cases c7 : c = 7
  · rw [if_pos c7] at eq
    exact hd 475 (lc_select h hi hL) eq
  rw [if_neg c7] at eq
  by_cases c8 : c = 8
  · rw [if_pos c8] at eq
    exact hd 524 (lc_find h hi hL) eq
  rw [if_neg c8] at eq
  by_cases c9 : c = 9
  · rw [if_pos c9] at eq
    exact hd 573 (lc_runs h hi hL) eq
  rw [if_neg c9] at eq
  by_cases c10 : c = 10
  · rw [if_pos c10] at eq
    exact hd 598 (lc_longest h hi hL) eq
  rw [if_neg c10] at eq
  by_cases c11 : c = 11
  · rw [if_pos c11] at eq
    exact hd 635 (lc_word h hi hL) eq
  rw [if_neg c11] at eq
  by_cases c12 : c = 12
  · rw [if_pos c12] at eq
    exact hd 703 (lc_leaves h hi hL) eq
  rw [if_neg c12] at eq
  by_cases c13 : c = 13
  · rw [if_pos c13] at eq
    exact hd 728 (lc_leaf h hi hL) eq
  rw [if_neg c13] at eq
  by_cases c14 : c = 14
  · rw [if_pos c14] at eq
    exact hd 777 (lc_tree h hi hL) eq
  rw [if_neg c14] at eq
  by_cases c15 : c = 15
  · rw [if_pos c15] at eq
    exact hd 814 (lc_dense h hi hL) eq
  rw [if_neg c15] at eq
  by_cases c16 : c = 16
  · rw [if_pos c16] at eq
    exact hd 894 (lc_load h hi hL) eq
  rw [if_neg c16] at eq
  by_cases c17 : c = 17
  · rw [if_pos c17] at eq
    exact hd 950 (lc_centre h hi hL) eq
  rw [if_neg c17] at eq
  by_cases c18 : c = 18
  · rw [if_pos c18] at eq
    exact hd 1018 (lc_apart h hi hL) eq
  rw [if_neg c18] at eq
  by_cases c19 : c = 19
  · rw [if_pos c19] at eq
    exact hd 1055 (lc_differ h hi hL) eq
  rw [if_neg c19] at eq
  by_cases c20 : c = 20
  · rw [if_pos c20] at eq
    exact hd 1092 (lc_seek h hi hL) eq
  rw [if_neg c20] at eq
  by_cases c21 : c = 21
  · rw [if_pos c21] at eq
    exact hd 1117 (lc_seekAt h hi hL) eq
  rw [if_neg c21] at eq
  by_cases c22 : c = 22
  · rw [if_pos c22] at eq
    exact hd 1142 (lc_put h hi hL) eq
  rw [if_neg c22] at eq
  by_cases c23 : c = 23
  · rw [if_pos c23] at eq
    exact hd 1191 (lc_set h hi hL) eq
  rw [if_neg c23] at eq
  by_cases c24 : c = 24
  · rw [if_pos c24] at eq
    exact hd 1240 (lc_cut h hi hL) eq
  rw [if_neg c24] at eq
  by_cases c25 : c = 25
  · rw [if_pos c25] at eq
    exact hd 1289 (lc_turn h hi hL) eq
  rw [if_neg c25] at eq
  by_cases c26 : c = 26
  · rw [if_pos c26] at eq
    exact hd 1338 (lc_paste h hi hL) eq
  rw [if_neg c26] at eq
  by_cases c27 : c = 27
  · rw [if_pos c27] at eq
    exact hd 1375 (lc_join h hi hL) eq
  rw [if_neg c27] at eq
  by_cases c28 : c = 28
  · rw [if_pos c28] at eq
    exact hd 1412 (lc_split h hi hL) eq
  rw [if_neg c28] at eq
  by_cases c29 : c = 29
  · rw [if_pos c29] at eq
    exact hd 1461 (lc_letters h hi hL) eq
  rw [if_neg c29] at eq
  by_cases c30 : c = 30
  · rw [if_pos c30] at eq
    exact hd 1474 (lc_letter h hi hL) eq
  rw [if_neg c30] at eq
  by_cases c31 : c = 31
  · rw [if_pos c31] at eq
    exact hd 1499 (lc_count h hi hL) eq
  rw [if_neg c31] at eq
  by_cases c32 : c = 32
  · rw [if_pos c32] at eq
    exact hd 1536 (lc_place h hi hL) eq
  rw [if_neg c32] at eq
  by_cases c33 : c = 33
  · rw [if_pos c33] at eq
    exact hd 1573 (lc_least h hi hL) eq
  rw [if_neg c33] at eq
  by_cases c34 : c = 34
  · rw [if_pos c34] at eq
    exact hd 1622 (lc_node h hi hL) eq
  rw [if_neg c34] at eq
  by_cases c35 : c = 35
  · rw [if_pos c35] at eq
    exact hd 1659 (lc_type h hi hL) eq
  rw [if_neg c35] at eq
  by_cases c36 : c = 36
  · rw [if_pos c36] at eq
    exact hd 1696 (lc_erase h hi hL) eq
  rw [if_neg c36] at eq
  by_cases c37 : c = 37
  · rw [if_pos c37] at eq
    exact hd 1733 (lc_undo h hi hL) eq
  rw [if_neg c37] at eq
  by_cases c38 : c = 38
  · rw [if_pos c38] at eq
    exact hd 1746 (lc_drawn h hi hL) eq
  rw [if_neg c38] at eq
  by_cases c39 : c = 39
  · rw [if_pos c39] at eq
    exact hd 1783 (lc_book h hi hL) eq
  rw [if_neg c39] at eq
  by_cases c40 : c = 40
  · rw [if_pos c40] at eq
    exact hd 1808 (lc_told h hi hL) eq
  rw [if_neg c40] at eq
  by_cases c41 : c = 41
  · rw [if_pos c41] at eq
    exact hd 1833 (lc_sentence h hi hL) eq
  rw [if_neg c41] at eq
  by_cases c42 : c = 42
  · rw [if_pos c42] at eq
    exact hd 1846 (lc_said h hi hL) eq
  rw [if_neg c42] at eq
  by_cases c43 : c = 43
  · rw [if_pos c43] at eq
    exact hd 1871 (lc_image h hi hL) eq
  rw [if_neg c43] at eq
  by_cases c44 : c = 44
  · rw [if_pos c44] at eq
    exact hd 1896 (lc_restore h hi hL) eq
  rw [if_neg c44] at eq
  by_cases c45 : c = 45
  · rw [if_pos c45] at eq
    exact hd 1921 (lc_total h hi hL) eq
  rw [if_neg c45] at eq
  exact ⟨w, S, h, by omega, by omega, fun res r => Rn.cut eq r⟩
theorem l_law (l0 : 0 ≤ L) (hL : L ≤ 3072) : ∀ (f : Nat) (i : Int) (w : sW) (S : St), L ≤ i + 6 * f → 0 ≤ i → i ≤ 3072 + 6 → LwS w S L → ∃ wF, Rn (Ex pro 50) mL_law (23, lwL i, [], w) (some (iV 1), wF) ∧ uc wF ≤ uc w + 41 * f ∧ us wF ≤ us w + 4010 * f
  | 0, i, w, S, hf, h0, h1, h => by
    have s := h.2.2
    refine ⟨w, Rn.ret ?_, by omega, by omega⟩
    have k20 : 20 ≤ kd w 25 ∧ kd w 25 ≤ 27 := by rw [s.1.1]; omega
    rw [eL_law_23, if_pos k20, s.1.2.1, if_pos (by rw [w32_eq (by omega) (by omega)]; omega)]
  | f + 1, i, w, S, hf, h0, h1, h => by
    by_cases c : i + 6 ≤ L
    · obtain ⟨w2, S2, a1, a2, a3, a4⟩ := l_call h ⟨h0, c⟩ hL
      obtain ⟨wF, b1, b2, b3⟩ := l_law l0 hL f (i + 6) w2 S2 (by omega) (by omega) (by omega) a1
      refine ⟨wF, a4 _ (Rn.cut ?_ b1), by omega, by omega⟩
      rw [eL_law_1946, w32_eq (by omega) (by omega)]
    · have s := h.2.2
      refine ⟨w, Rn.ret ?_, by omega, by omega⟩
      have k20 : 20 ≤ kd w 25 ∧ kd w 25 ≤ 27 := by rw [s.1.1]; omega
      rw [eL_law_23, if_pos k20, s.1.2.1, if_pos (by rw [w32_eq (by omega) (by omega)]; omega)]
end LP
