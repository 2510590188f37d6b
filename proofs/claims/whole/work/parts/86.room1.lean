/-! ===== a room read by the class ===== -/
def E0 : Rm := (0, 8, fun _ => 0, fun _ => Z0, (0, fun _ => 0))
section PR
variable {d : Nat} {w : sW} {t : Int → Int} {n most p : Int}
theorem t_readLines {q : Int} (hq : q = 36 ∨ q = 53) (h : RdI w t n most 0) (hf : FlI w 0 0) (hW : WordI w) (hS : StSh w q) : ∃ w', Ex pro (d + 5) 80 w [rV q, rV 34] = some (some (iV (rmF t n most 940 0 0 0 E0).2.2.1), w') ∧ (∃ p', RdI w' t n most p') ∧ FlI w' (rmF t n most 940 0 0 0 E0).1 (rmF t n most 940 0 0 0 E0).2.1 ∧ WordI w' ∧ StI w' q (rmF t n most 940 0 0 0 E0).2.2.2 ∧ Mf w w' (rmP q) := by
  have m1 := Mf.svI w q 3 0
  have m2 := Mf.svI (sv w q 3 0) q 4 8
  have m3 := Mf.svI (sv (sv w q 3 0) q 4 8) (q + 3) 1 0
  have m4 := Mf.svI (sv (sv (sv w q 3 0) q 4 8) (q + 3) 1 0) q 5 0
  have mm : Mf w (sv (sv (sv (sv w q 3 0) q 4 8) (q + 3) 1 0) q 5 0) (fun r j => (r = q ∧ (j = 3 ∨ j = 4 ∨ j = 5)) ∨ (r = q + 3 ∧ j = 1)) := (m1.trans (m2.trans (m3.trans m4))).mono (fun r j z => by omega)
  obtain ⟨b1, b2, b3, b4, b5, b6, b7⟩ := hS
  have S4 : StI (sv (sv (sv (sv w q 3 0) q 4 8) (q + 3) 1 0) q 5 0) q E0 := by
    refine ⟨⟨⟨b1.1, by rw [mm.gvE (by omega)]; exact b1.2.1, by rw [mm.gvE (by omega)]; exact b1.2.2.1, by rw [mm.gvE (by omega)]; exact b1.2.2.2⟩, b2, fun r r0 r1 => by rw [mm.gvE (by omega)]; exact b3 r r0 r1, b4, ?_, fun r r0 r1 => ?_, b7⟩, ⟨?_, ?_⟩, ⟨by show (0 : Int) ≤ 0; omega, by show (0 : Int) ≤ 4; omega⟩, ⟨by show (4 : Int) ≤ 8; omega, by show (8 : Int) ≤ 32; omega⟩, fun r r0 r1 => by change r < 0 at r1; omega, fun r r0 r1 => by change r < 0 at r1; omega, ⟨?_, ?_, ⟨by show (0 : Int) ≤ 0; omega, by show (0 : Int) ≤ 200; omega⟩, fun r r0 r1 => by change r < 0 at r1; omega, fun r r0 r1 => by change r < 0 at r1; omega⟩⟩
    · exact ⟨b5.1, by rw [mm.gvE (by omega)]; exact b5.2.1, b5.2.2⟩
    · obtain ⟨s1, s2, s3, s4, s5, s6, s7, s8⟩ := b6 r r0 r1
      exact ⟨s1, by rw [mm.gvE (by omega)]; exact s2, by rw [mm.gvE (by omega)]; exact s3, s4, s5, s6, s7, s8⟩
    · rw [m4.gvE (by omega), m3.gvE (by omega), m2.gvE (by omega), gvSS]; rfl
    · rw [m4.gvE (by omega), m3.gvE (by omega), gvSS]; rfl
    · exact ⟨b5.1, by rw [mm.gvE (by omega)]; exact b5.2.1, b5.2.2⟩
    · rw [m4.gvE (by omega), gvSS]; rfl
  obtain ⟨w', g1, g2, g3, g4, g5, g6⟩ := l_lines (d := d) hq 940 0 0 0 0 _ _ (by omega) (by omega) (by omega) (h.mf mm (fun j j0 j1 => by omega) (fun j => by omega)) ⟨by rw [mm.gvE (by omega)]; exact hf.1, by rw [mm.gvE (by omega)]; exact hf.2⟩ (hW.eq (mm.eqO (fun r j r0 r1 => by omega))) S4 (fun _ => rfl) (gvSS _ _ _ _) (Or.inl rfl)
  refine ⟨w', xX8_readLines (Rn.cut ?_ g1), g2, g3, g4, g5, (mm.mono (Q := rmP q) (fun r j z => by omega)).tr g6⟩
  have y2 : gv (sv (sv w q 3 0) q 4 8) q 2 = q + 3 := by rw [m2.gvE (by omega), m1.gvE (by omega)]; exact b1.2.2.2
  have k8 : ∀ r j v r' j' v', kd (sv (sv w r j v) r' j' v') q = 8 := fun _ _ _ _ _ _ => b1.1
  rw [eX8_readLines_0, if_pos b1.1, wl_eq, if_pos (show kd (sv w q 3 0) q = 8 from b1.1), wl_eq, if_pos (k8 _ _ _ _ _ _), y2, if_pos (show kd (sv (sv w q 3 0) q 4 8) (q + 3) = 6 from b5.1), wl_eq, if_pos ⟨show kd (sv (sv (sv w q 3 0) q 4 8) (q + 3) 1 0) q = 8 from b1.1, Or.inl rfl⟩, wl_eq]
theorem p_closes {fa pl : Int} (hk : kd w 32 = 9) (h2 : gv w 32 2 = 34) (k4 : kd w 34 = 4) (hf : FlI w fa pl) : Ex pro (d + 1) 100 w [rV 32] = some (some (iV (if fa = 0 then 0 else 1)), sv (sv w 32 1 0) 32 13 fa) := by
  refine xX11_closesWithFault (Rn.ret ?_)
  have y2 : gv (sv w 32 1 0) 32 2 = 34 := by rw [gvS, if_neg (by omega)]; exact h2
  have y10 : gv (sv w 32 1 0) 34 10 = fa := by rw [gvS, if_neg (by omega)]; exact hf.1
  rw [eX11_closesWithFault_0, if_pos hk, wl_eq, if_pos (show kd (sv w 32 1 0) 32 = 9 from hk), y2, if_pos (show kd (sv w 32 1 0) 34 = 4 from k4), if_pos (show kd (sv w 32 1 0) 32 = 9 from hk), y10, wl_eq, if_pos (show kd (sv (sv w 32 1 0) 32 13 fa) 32 = 9 from hk), gvSS]
  by_cases c : fa = 0
  · rw [if_pos c, if_pos c]
  · rw [if_neg c, if_neg c]
theorem p_swap (hk : kd w 32 = 9) : Ex pro (d + 1) 101 w [rV 32] = some (none, sv (sv w 32 3 (gv w 32 4)) 32 4 (gv w 32 3)) := by
  refine xX11_swapStates (Rn.ret ?_)
  rw [eX11_swapStates_0, if_pos hk, if_pos hk, if_pos hk, wl_eq, if_pos (show kd (sv w 32 3 (gv w 32 4)) 32 = 9 from hk), wl_eq]
theorem p_clear7 {s : Int} (hk : kd w s = 7) : Ex pro (d + 1) 65 w [rV s] = some (none, sv (sv w s 4 0) s 5 0) := by
  refine xX7_clear (Rn.ret ?_)
  rw [eX7_clear_0, if_pos hk, wl_eq, if_pos (show kd (sv w s 4 0) s = 7 from hk), wl_eq]
theorem p_forget (hk : kd w 85 = 3) : Ex pro (d + 1) 11 w [rV 85] = some (none, sv w 85 2 0) := by
  refine xX3_forget (Rn.ret ?_)
  rw [eX3_forget_0, if_pos hk, wl_eq]
end PR
