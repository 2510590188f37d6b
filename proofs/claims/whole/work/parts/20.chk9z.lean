theorem mem_chunk {α : Type} {L : List α} {a : α} (k c : Nat) (h : a ∈ L.drop k) : a ∈ (L.drop k).take c ∨ a ∈ L.drop (k + c) := by
  rw [← List.take_append_drop c (L.drop k)] at h
  rcases List.mem_append.mp h with q | q
  · exact Or.inl q
  · rw [List.drop_drop] at q
    exact Or.inr q
theorem lawChk : ∀ e ∈ mL_law.2.2.1, (∃ hh, vB infA RL "law" e.2.1 e.1 e.2.2.1 e.2.2.2.1 e.2.2.2.2.1 e.2.2.2.2.2.1 e.2.2.2.2.2.2 hh = true) ∧ decode code e.1 = .ok (e.2.1, e.2.2.1) ∧ vR 4 e.2.1 = true := by
  intro e he
  have h : e ∈ mL_law.2.2.1.drop 0 := he
  rcases mem_chunk 0 40 h with h | h
  · exact chkL_s _ _ kL_0 e h
  rcases mem_chunk 40 40 h with h | h
  · exact chkL_s _ _ kL_1 e h
  rcases mem_chunk 80 40 h with h | h
  · exact chkL_s _ _ kL_2 e h
  rcases mem_chunk 120 40 h with h | h
  · exact chkL_s _ _ kL_3 e h
  rcases mem_chunk 160 40 h with h | h
  · exact chkL_s _ _ kL_4 e h
  rcases mem_chunk 200 40 h with h | h
  · exact chkL_s _ _ kL_5 e h
  rcases mem_chunk 240 40 h with h | h
  · exact chkL_s _ _ kL_6 e h
  rcases mem_chunk 280 40 h with h | h
  · exact chkL_s _ _ kL_7 e h
  rcases mem_chunk 320 40 h with h | h
  · exact chkL_s _ _ kL_8 e h
  rcases mem_chunk 360 40 h with h | h
  · exact chkL_s _ _ kL_9 e h
  rcases mem_chunk 400 40 h with h | h
  · exact chkL_s _ _ kL_10 e h
  rcases mem_chunk 440 40 h with h | h
  · exact chkL_s _ _ kL_11 e h
  rcases mem_chunk 480 40 h with h | h
  · exact chkL_s _ _ kL_12 e h
  rcases mem_chunk 520 40 h with h | h
  · exact chkL_s _ _ kL_13 e h
  rcases mem_chunk 560 40 h with h | h
  · exact chkL_s _ _ kL_14 e h
  rcases mem_chunk 600 40 h with h | h
  · exact chkL_s _ _ kL_15 e h
  rcases mem_chunk 640 40 h with h | h
  · exact chkL_s _ _ kL_16 e h
  rcases mem_chunk 680 40 h with h | h
  · exact chkL_s _ _ kL_17 e h
  rcases mem_chunk 720 40 h with h | h
  · exact chkL_s _ _ kL_18 e h
  rcases mem_chunk 760 40 h with h | h
  · exact chkL_s _ _ kL_19 e h
  rcases mem_chunk 800 40 h with h | h
  · exact chkL_s _ _ kL_20 e h
  rcases mem_chunk 840 40 h with h | h
  · exact chkL_s _ _ kL_21 e h
  rcases mem_chunk 880 40 h with h | h
  · exact chkL_s _ _ kL_22 e h
  rcases mem_chunk 920 40 h with h | h
  · exact chkL_s _ _ kL_23 e h
  rcases mem_chunk 960 40 h with h | h
  · exact chkL_s _ _ kL_24 e h
  rcases mem_chunk 1000 40 h with h | h
  · exact chkL_s _ _ kL_25 e h
  rcases mem_chunk 1040 40 h with h | h
  · exact chkL_s _ _ kL_26 e h
  rcases mem_chunk 1080 40 h with h | h
  · exact chkL_s _ _ kL_27 e h
  rcases mem_chunk 1120 40 h with h | h
  · exact chkL_s _ _ kL_28 e h
  rcases mem_chunk 1160 40 h with h | h
  · exact chkL_s _ _ kL_29 e h
  rcases mem_chunk 1200 40 h with h | h
  · exact chkL_s _ _ kL_30 e h
  rcases mem_chunk 1240 40 h with h | h
  · exact chkL_s _ _ kL_31 e h
  rw [List.drop_eq_nil_of_le (by decide +kernel)] at h
  cases h
theorem lawCuts : (∀ q ∈ mL_law.2.2.2, q.2.length = 7) ∧ mL_law.1 = 7 ∧ mL_law.2.1 = 4 := by decide +kernel
