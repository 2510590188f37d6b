/-! ===== the reference's deeds, called ===== -/
/-- what was so earlier is of the same room -/
def HOk (A : Rm) (hk : Int) (H : Int → Rm) : Prop := ∀ j, 0 ≤ j → j < hk → (H j).1 = A.1 ∧ (H j).2.1 = A.2.1 ∧ (H j).2.2.1 = A.2.2.1
theorem actF_keep (A : Rm) (e a b c : Int) : (actF A e a b c).1 = A.1 ∧ (actF A e a b c).2.1 = A.2.1 ∧ (actF A e a b c).2.2.1 = A.2.2.1 := by
  unfold actF
  split
  · exact ⟨rfl, rfl, rfl⟩
  · split
    · exact ⟨rfl, rfl, rfl⟩
    · split
      · exact ⟨rfl, rfl, rfl⟩
      · split
        · exact ⟨rfl, rfl, rfl⟩
        · split
          · exact ⟨rfl, rfl, rfl⟩
          · split
            · exact ⟨rfl, rfl, rfl⟩
            · split <;> exact ⟨rfl, rfl, rfl⟩
theorem actM_keep (A : Rm) (e r i n : Int) : (actM A e r i n).1 = A.1 ∧ (actM A e r i n).2.1 = A.2.1 ∧ (actM A e r i n).2.2.1 = A.2.2.1 := actF_keep _ _ _ _ _
theorem HOk.cg {A B : Rm} {hk : Int} {H : Int → Rm} (h : HOk A hk H) (e : B.1 = A.1 ∧ B.2.1 = A.2.1 ∧ B.2.2.1 = A.2.2.1) : HOk B hk H := fun j j0 j1 => by
  have := h j j0 j1
  rw [e.1, e.2.1, e.2.2]
  exact this
theorem HOk.push {A : Rm} {hk : Int} {H : Int → Rm} (h : HOk A hk H) (h0 : 0 ≤ hk ∧ hk ≤ 8) : HOk A (pushK hk) (pushH hk H A) := fun j j0 j1 => by
  unfold pushK at j1
  unfold pushH
  by_cases c : hk = 8
  · rw [if_pos c] at j1 ⊢
    by_cases z : j = 7
    · rw [if_pos z]; exact ⟨rfl, rfl, rfl⟩
    · rw [if_neg z]; exact h (j + 1) (by omega) (by omega)
  · rw [if_neg c] at j1 ⊢
    by_cases z : j = hk
    · rw [if_pos z]; exact ⟨rfl, rfl, rfl⟩
    · rw [if_neg z]; exact h j j0 (by omega)
/-- a deed that is asked for: V, whether it is one at all -/
def nxA (A : Rm) (V : Prop) [Decidable V] (e r i n : Int) : Rm := if V ∧ whyM A e r i n = 0 then actM A e r i n else A
def nxK (A : Rm) (V : Prop) [Decidable V] (e r i n hk : Int) : Int := if V ∧ whyM A e r i n = 0 then pushK hk else hk
def nxH (A : Rm) (V : Prop) [Decidable V] (e r i n hk : Int) (H : Int → Rm) : Int → Rm := if V ∧ whyM A e r i n = 0 then pushH hk H A else H
/-- the cells that a deed of the reference may change -/
abbrev dM (m r j : Int) : Prop := (r = m ∧ (j = 0 ∨ j = 24)) ∨ r = m + 5 ∨ (r = m + 2 ∧ 2607 ≤ j ∧ j < 5820)
section MD
variable {d : Nat} {w : sW} {m : Int} {A : Rm} {hk : Int} {H : Int → Rm}
theorem sa_mf {X : Int → Int} {P : Int → Prop} (h : ∀ x, ¬ P x → X x = gv w (m + 2) x) : Mf w (sa w (m + 2) X) (fun r j => r = m + 2 ∧ P j) := ⟨rfl, rfl, fun r j hp => by
  rw [gvA]
  by_cases c : r = m + 2
  · rw [if_pos c, c]; exact h j (fun z => hp ⟨c, z⟩)
  · rw [if_neg c]⟩
theorem o_act (h : MSh w m) (hA : MoI w m A) (hh : HsM w m hk H) {e r i n : Int} (V : Prop) [Decidable V] (hd : V → dOk A e r i n) : ∃ w', Ex pro (d + 7) 238 w [rV m, iV e, iV r, iV i, iV n, iV (if V then 1 else 0)] = some (some (iV (if V then whyM A e r i n else -1)), w') ∧ MoI w' m (nxA A V e r i n) ∧ HsM w' m (nxK A V e r i n hk) (nxH A V e r i n hk H) ∧ Mf w w' (dM m) := by
  unfold nxA nxK nxH
  by_cases v : V
  · rw [if_pos v, if_pos v]
    have hr := o_refusal (d := d + 3) hA (hd v)
    by_cases c : whyM A e r i n = 0
    · rw [if_pos ⟨v, c⟩, if_pos ⟨v, c⟩, if_pos ⟨v, c⟩]
      obtain ⟨w1, a1, a2, a3⟩ := o_snap (d := d + 4) h hA hh
      have hA1 := hA.mf a3 (by omega) (fun j hj => by omega)
      have h1 := h.mf a3 (fun j hj => by omega)
      obtain ⟨X', b1, b2, b3⟩ := o_live (d := d) h1.nw hA1.2 (hd v) c
      rw [sa_self] at b1
      have mf : Mf w1 (sa w1 (m + 2) X') (fun r j => r = m + 2 ∧ (2607 ≤ j ∧ j < 5820)) := sa_mf (fun x hx => b3 x (by omega))
      refine ⟨sa w1 (m + 2) X', xX12_act (Rn.ret ?_), MoI.sa h1.nw b2, a2.mf mf (by omega) (fun j => by omega), (a3.trans mf).mono (fun r j z => by omega)⟩
      rw [eX12_act_0, if_neg (by decide), if_pos h.1.1, hr, c]
      simp only [bI]
      rw [if_pos trivial, if_pos h.1.1, a1]
      simp only [bN]
      rw [if_pos h1.1.1, b1]
    · rw [if_neg (fun z => c z.2), if_neg (fun z => c z.2), if_neg (fun z => c z.2)]
      refine ⟨w, xX12_act (Rn.ret ?_), hA, hh, Mf.refl _ _⟩
      rw [eX12_act_0, if_neg (by decide), if_pos h.1.1, hr]
      simp only [bI]
      rw [if_neg c]
  · rw [if_neg v, if_neg v, if_neg (fun z => v z.1), if_neg (fun z => v z.1), if_neg (fun z => v z.1)]
    refine ⟨w, xX12_act (Rn.ret ?_), hA, hh, Mf.refl _ _⟩
    rw [eX12_act_0, if_pos rfl]
/-- the world after 'thrown = 0' -/
theorem MSh.t0 (h : MSh w m) : MSh (sv w m 0 0) m := h.mf (Mf.svI w m 0 0) (fun j hj => by omega)
theorem HsM.t0 (h : HsM w m hk H) : HsM (sv w m 0 0) m hk H := h.mf (Mf.svI w m 0 0) (by omega) (fun j => by omega)
/-- what a called deed of the reference does -/
def dRes (w : sW) (m : Int) (A : Rm) (hk : Int) (H : Int → Rm) (V : Prop) [Decidable V] (e r i n : Int) (x : Option (Option sV × sW)) : Prop := ∃ w', x = some (some (iV (if V then whyM A e r i n else -1)), w') ∧ MoI w' m (nxA A V e r i n) ∧ HsM w' m (nxK A V e r i n hk) (nxH A V e r i n hk H) ∧ Mf w w' (dM m)
theorem o_act0 (h : MSh w m) (hA : MoI w m A) (hh : HsM w m hk H) {e r i n : Int} (V : Prop) [Decidable V] (hd : V → dOk A e r i n) : ∃ w', Ex pro (d + 7) 238 (sv w m 0 0) [rV m, iV e, iV r, iV i, iV n, iV (if V then 1 else 0)] = some (some (iV (if V then whyM A e r i n else -1)), w') ∧ MoI w' m (nxA A V e r i n) ∧ HsM w' m (nxK A V e r i n hk) (nxH A V e r i n hk H) ∧ Mf w w' (dM m) := by
  obtain ⟨w', a1, a2, a3, a4⟩ := o_act (d := d) h.t0 hA.t0 hh.t0 V hd
  exact ⟨w', a1, a2, a3, ((Mf.svI w m 0 0).trans a4).mono (fun r j z => by omega)⟩
abbrev puV (A : Rm) (r b : Int) : Prop := isR A r ∧ (b = 0 ∨ b = 1)
abbrev cuV (A : Rm) (r n : Int) : Prop := isR A r ∧ 1 ≤ n ∧ n ≤ 600
abbrev twV (A : Rm) (r s : Int) : Prop := isR A r ∧ isR A s ∧ r ≠ s
theorem dOk_put {r i b : Int} (hi : in32 i) (e : Int) (he : e = 0 ∨ e = 1) (v : puV A r b) : dOk A e r i b := ⟨by omega, fun _ => v.1, by omega, fun _ => v.2, by omega, by omega, hi⟩
theorem dOk_cut {r i n : Int} (hi : in32 i) (e : Int) (he : e = 2 ∨ e = 3) (v : cuV A r n) : dOk A e r i n := ⟨by omega, fun _ => v.1, by omega, by omega, fun _ => v.2, by omega, hi⟩
theorem dOk_two {r i s : Int} (hi : in32 i) (e : Int) (he : e = 4 ∨ e = 5) (v : twV A r s) : dOk A e r i s := ⟨by omega, fun _ => v.1, fun _ => v.2, by omega, by omega, by omega, hi⟩
theorem dOk_type {i c : Int} (hi : in32 i) (v : 0 ≤ c ∧ c < 8) : dOk A 6 0 i c := ⟨by omega, by omega, by omega, by omega, by omega, fun _ => v, hi⟩
theorem dOk_erase {i n : Int} (hi : in32 i) (v : 1 ≤ n ∧ n ≤ 200) : dOk A 7 0 i n := ⟨by omega, by omega, by omega, by omega, fun _ => by omega, by omega, hi⟩
theorem q_put (h : MSh w m) (hA : MoI w m A) (hh : HsM w m hk H) {r i b : Int} (hi : in32 i) : ∃ w', Ex pro (d + 8) 239 w [rV m, iV r, iV i, iV b] = some (some (iV (if puV A r b then whyM A 0 r i b else -1)), w') ∧ MoI w' m (nxA A (puV A r b) 0 r i b) ∧ HsM w' m (nxK A (puV A r b) 0 r i b hk) (nxH A (puV A r b) 0 r i b hk H) ∧ Mf w w' (dM m) := by
  obtain ⟨w', a1, a2, a3, a4⟩ := o_act0 (d := d) h hA hh (puV A r b) (dOk_put hi 0 (by omega))
  have h' := hA.t0
  have k1 := h'.1.1
  refine ⟨w', xX12_put (Rn.ret ?_), a2, a3, a4⟩
  rw [eX12_put_0, if_pos h.1.1, wl_eq, if_pos k1, h'.isRow r]
  simp only [bI, ite10]
  by_cases c : isR A r
  · rw [if_pos c, if_pos k1, o_isBit]
    simp only [ite10]
    by_cases c2 : 0 ≤ b ∧ b ≤ 1
    · rw [if_pos (⟨c, by omega⟩ : puV A r b), if_pos (⟨c, by omega⟩ : puV A r b)] at a1
      rw [if_pos (⟨c, by omega⟩ : puV A r b)]
      rw [if_pos c2, if_pos k1, a1]
    · rw [if_neg (fun z : puV A r b => c2 (by omega)), if_neg (fun z : puV A r b => c2 (by omega))] at a1
      rw [if_neg (fun z : puV A r b => c2 (by omega))]
      rw [if_neg c2, if_pos k1, a1]
  · rw [if_neg (fun z : puV A r b => c z.1), if_neg (fun z : puV A r b => c z.1)] at a1
    rw [if_neg (fun z : puV A r b => c z.1)]
    rw [if_neg c, if_pos k1, a1]
theorem q_set (h : MSh w m) (hA : MoI w m A) (hh : HsM w m hk H) {r i b : Int} (hi : in32 i) : ∃ w', Ex pro (d + 8) 240 w [rV m, iV r, iV i, iV b] = some (some (iV (if puV A r b then whyM A 1 r i b else -1)), w') ∧ MoI w' m (nxA A (puV A r b) 1 r i b) ∧ HsM w' m (nxK A (puV A r b) 1 r i b hk) (nxH A (puV A r b) 1 r i b hk H) ∧ Mf w w' (dM m) := by
  obtain ⟨w', a1, a2, a3, a4⟩ := o_act0 (d := d) h hA hh (puV A r b) (dOk_put hi 1 (by omega))
  have h' := hA.t0
  have k1 := h'.1.1
  refine ⟨w', xX12_set (Rn.ret ?_), a2, a3, a4⟩
  rw [eX12_set_0, if_pos h.1.1, wl_eq, if_pos k1, h'.isRow r]
  simp only [bI, ite10]
  by_cases c : isR A r
  · rw [if_pos c, if_pos k1, o_isBit]
    simp only [ite10]
    by_cases c2 : 0 ≤ b ∧ b ≤ 1
    · rw [if_pos (⟨c, by omega⟩ : puV A r b), if_pos (⟨c, by omega⟩ : puV A r b)] at a1
      rw [if_pos (⟨c, by omega⟩ : puV A r b)]
      rw [if_pos c2, if_pos k1, a1]
    · rw [if_neg (fun z : puV A r b => c2 (by omega)), if_neg (fun z : puV A r b => c2 (by omega))] at a1
      rw [if_neg (fun z : puV A r b => c2 (by omega))]
      rw [if_neg c2, if_pos k1, a1]
  · rw [if_neg (fun z : puV A r b => c z.1), if_neg (fun z : puV A r b => c z.1)] at a1
    rw [if_neg (fun z : puV A r b => c z.1)]
    rw [if_neg c, if_pos k1, a1]
theorem q_cut (h : MSh w m) (hA : MoI w m A) (hh : HsM w m hk H) {r i n : Int} (hi : in32 i) : ∃ w', Ex pro (d + 8) 241 w [rV m, iV r, iV i, iV n] = some (some (iV (if cuV A r n then whyM A 2 r i n else -1)), w') ∧ MoI w' m (nxA A (cuV A r n) 2 r i n) ∧ HsM w' m (nxK A (cuV A r n) 2 r i n hk) (nxH A (cuV A r n) 2 r i n hk H) ∧ Mf w w' (dM m) := by
  obtain ⟨w', a1, a2, a3, a4⟩ := o_act0 (d := d) h hA hh (cuV A r n) (dOk_cut hi 2 (by omega))
  have h' := hA.t0
  have k1 := h'.1.1
  refine ⟨w', xX12_cut (Rn.ret ?_), a2, a3, a4⟩
  rw [eX12_cut_0, if_pos h.1.1, wl_eq, if_pos k1, h'.isRow r]
  simp only [bI, ite10]
  by_cases c : isR A r
  · rw [if_pos c, o_isIn]
    simp only [ite10]
    by_cases c2 : 1 ≤ n ∧ n ≤ 600
    · rw [if_pos (⟨c, c2⟩ : cuV A r n), if_pos (⟨c, c2⟩ : cuV A r n)] at a1
      rw [if_pos (⟨c, c2⟩ : cuV A r n)]
      rw [if_pos c2, if_pos k1, a1]
    · rw [if_neg (fun z : cuV A r n => c2 z.2), if_neg (fun z : cuV A r n => c2 z.2)] at a1
      rw [if_neg (fun z : cuV A r n => c2 z.2)]
      rw [if_neg c2, if_pos k1, a1]
  · rw [if_neg (fun z : cuV A r n => c z.1), if_neg (fun z : cuV A r n => c z.1)] at a1
    rw [if_neg (fun z : cuV A r n => c z.1)]
    rw [if_neg c, if_pos k1, a1]
theorem q_turn (h : MSh w m) (hA : MoI w m A) (hh : HsM w m hk H) {r i n : Int} (hi : in32 i) : ∃ w', Ex pro (d + 8) 242 w [rV m, iV r, iV i, iV n] = some (some (iV (if cuV A r n then whyM A 3 r i n else -1)), w') ∧ MoI w' m (nxA A (cuV A r n) 3 r i n) ∧ HsM w' m (nxK A (cuV A r n) 3 r i n hk) (nxH A (cuV A r n) 3 r i n hk H) ∧ Mf w w' (dM m) := by
  obtain ⟨w', a1, a2, a3, a4⟩ := o_act0 (d := d) h hA hh (cuV A r n) (dOk_cut hi 3 (by omega))
  have h' := hA.t0
  have k1 := h'.1.1
  refine ⟨w', xX12_turn (Rn.ret ?_), a2, a3, a4⟩
  rw [eX12_turn_0, if_pos h.1.1, wl_eq, if_pos k1, h'.isRow r]
  simp only [bI, ite10]
  by_cases c : isR A r
  · rw [if_pos c, o_isIn]
    simp only [ite10]
    by_cases c2 : 1 ≤ n ∧ n ≤ 600
    · rw [if_pos (⟨c, c2⟩ : cuV A r n), if_pos (⟨c, c2⟩ : cuV A r n)] at a1
      rw [if_pos (⟨c, c2⟩ : cuV A r n)]
      rw [if_pos c2, if_pos k1, a1]
    · rw [if_neg (fun z : cuV A r n => c2 z.2), if_neg (fun z : cuV A r n => c2 z.2)] at a1
      rw [if_neg (fun z : cuV A r n => c2 z.2)]
      rw [if_neg c2, if_pos k1, a1]
  · rw [if_neg (fun z : cuV A r n => c z.1), if_neg (fun z : cuV A r n => c z.1)] at a1
    rw [if_neg (fun z : cuV A r n => c z.1)]
    rw [if_neg c, if_pos k1, a1]
theorem MoI.two (h : MoI w m A) (r s : Int) : Ex pro (d + 3) 244 w [rV m, iV r, iV s] = some (some (iV (if twV A r s then 1 else 0)), w) := by
  refine xX12_areTwo (Rn.ret ?_)
  rw [eX12_areTwo_0, if_pos h.1.1, h.isRow r]
  simp only [bI, ite10]
  by_cases c : isR A r
  · rw [if_pos c, if_pos h.1.1, h.isRow s]
    simp only [ite10]
    by_cases c2 : isR A s
    · rw [if_pos c2]
      by_cases c3 : r = s
      · rw [if_pos c3, if_neg (fun z => z.2.2 c3)]
      · rw [if_neg c3, if_pos ⟨c, c2, c3⟩]
    · rw [if_neg c2, if_neg (fun z => c2 z.2.1)]
  · rw [if_neg c, if_neg (fun z => c z.1)]
theorem q_join (h : MSh w m) (hA : MoI w m A) (hh : HsM w m hk H) (r s : Int) : ∃ w', Ex pro (d + 8) 245 w [rV m, iV r, iV s] = some (some (iV (if twV A r s then whyM A 4 r 0 s else -1)), w') ∧ MoI w' m (nxA A (twV A r s) 4 r 0 s) ∧ HsM w' m (nxK A (twV A r s) 4 r 0 s hk) (nxH A (twV A r s) 4 r 0 s hk H) ∧ Mf w w' (dM m) := by
  obtain ⟨w', a1, a2, a3, a4⟩ := o_act0 (d := d) h hA hh (e := 4) (r := r) (i := 0) (n := s) (twV A r s) (dOk_two (by unfold in32; omega) 4 (by omega))
  have h' := hA.t0
  have k1 := h'.1.1
  refine ⟨w', xX12_join (Rn.ret ?_), a2, a3, a4⟩
  rw [eX12_join_0, if_pos h.1.1, wl_eq, if_pos k1, h'.two r s]
  simp only [bI]
  rw [if_pos k1, a1]
theorem q_split (h : MSh w m) (hA : MoI w m A) (hh : HsM w m hk H) {r i s : Int} (hi : in32 i) : ∃ w', Ex pro (d + 8) 246 w [rV m, iV r, iV i, iV s] = some (some (iV (if twV A r s then whyM A 5 r i s else -1)), w') ∧ MoI w' m (nxA A (twV A r s) 5 r i s) ∧ HsM w' m (nxK A (twV A r s) 5 r i s hk) (nxH A (twV A r s) 5 r i s hk H) ∧ Mf w w' (dM m) := by
  obtain ⟨w', a1, a2, a3, a4⟩ := o_act0 (d := d) h hA hh (twV A r s) (dOk_two hi 5 (by omega))
  have h' := hA.t0
  have k1 := h'.1.1
  refine ⟨w', xX12_split (Rn.ret ?_), a2, a3, a4⟩
  rw [eX12_split_0, if_pos h.1.1, wl_eq, if_pos k1, h'.two r s]
  simp only [bI]
  rw [if_pos k1, a1]
theorem q_type (h : MSh w m) (hA : MoI w m A) (hh : HsM w m hk H) {i c : Int} (hi : in32 i) : ∃ w', Ex pro (d + 8) 247 w [rV m, iV i, iV c] = some (some (iV (if 0 ≤ c ∧ c < 8 then whyM A 6 0 i c else -1)), w') ∧ MoI w' m (nxA A (0 ≤ c ∧ c < 8) 6 0 i c) ∧ HsM w' m (nxK A (0 ≤ c ∧ c < 8) 6 0 i c hk) (nxH A (0 ≤ c ∧ c < 8) 6 0 i c hk H) ∧ Mf w w' (dM m) := by
  obtain ⟨w', a1, a2, a3, a4⟩ := o_act0 (d := d) h hA hh (0 ≤ c ∧ c < 8) (dOk_type hi)
  have k1 := hA.t0.1.1
  refine ⟨w', xX12_type (Rn.ret ?_), a2, a3, a4⟩
  have e : (if 0 ≤ c ∧ c ≤ 7 then (1 : Int) else 0) = if 0 ≤ c ∧ c < 8 then 1 else 0 := by split <;> split <;> omega
  rw [eX12_type_0, if_pos h.1.1, wl_eq, o_isIn, e]
  simp only [bI]
  rw [if_pos k1, a1]
theorem q_erase (h : MSh w m) (hA : MoI w m A) (hh : HsM w m hk H) {i n : Int} (hi : in32 i) : ∃ w', Ex pro (d + 8) 248 w [rV m, iV i, iV n] = some (some (iV (if 1 ≤ n ∧ n ≤ 200 then whyM A 7 0 i n else -1)), w') ∧ MoI w' m (nxA A (1 ≤ n ∧ n ≤ 200) 7 0 i n) ∧ HsM w' m (nxK A (1 ≤ n ∧ n ≤ 200) 7 0 i n hk) (nxH A (1 ≤ n ∧ n ≤ 200) 7 0 i n hk H) ∧ Mf w w' (dM m) := by
  obtain ⟨w', a1, a2, a3, a4⟩ := o_act0 (d := d) h hA hh (1 ≤ n ∧ n ≤ 200) (dOk_erase hi)
  have k1 := hA.t0.1.1
  refine ⟨w', xX12_erase (Rn.ret ?_), a2, a3, a4⟩
  rw [eX12_erase_0, if_pos h.1.1, wl_eq, o_isIn]
  simp only [bI]
  rw [if_pos k1, a1]
theorem q_undo (h : MSh w m) (hA : MoI w m A) (hh : HsM w m hk H) (ho : HOk A hk H) : ∃ w', Ex pro (d + 2) 249 w [rV m] = some (some (iV (if hk = 0 then -1 else hk - 1)), w') ∧ MoI w' m (if hk = 0 then A else H (hk - 1)) ∧ HsM w' m (if hk = 0 then 0 else hk - 1) H ∧ Mf w w' (dM m) := by
  obtain ⟨g1, g2, g3⟩ := hh
  have m32 := h.1.2
  have k1 := h.t0.1.1
  have e0 : gv (sv w m 0 0) m 24 = hk := by rw [gvS, if_neg (by omega)]; exact g1
  by_cases c : hk = 0
  · rw [if_pos c, if_pos c, if_pos c]
    refine ⟨sv w m 0 0, xX12_undo (Rn.ret ?_), hA.t0, ⟨by rw [e0, c], by omega, fun j j0 j1 => by omega⟩, (Mf.svI w m 0 0).mono (fun r j z => by omega)⟩
    rw [eX12_undo_0, if_pos h.1.1, wl_eq, if_pos k1, e0, if_pos c]
  · rw [if_neg c, if_neg c, if_neg c]
    have mf : Mf w (sv (sv w m 0 0) m 24 (hk - 1)) (fun r j => r = m ∧ (j = 0 ∨ j = 24)) := ((Mf.svI w m 0 0).trans (Mf.svI _ m 24 (hk - 1))).mono (fun r j z => by omega)
    have h2 := h.mf mf (fun j hj => by omega)
    have hA2 := hA.mf mf (by omega) (fun j hj => by omega)
    have q := h2.2.2.2.2.2.1
    have e1 : gv (sv (sv w m 0 0) m 24 (hk - 1)) m 24 = hk - 1 := gvSS _ _ _ _
    have eY : gv (sv (sv w m 0 0) m 24 (hk - 1)) (m + 5) = gv w (m + 5) := funext fun x => mf.gvE (by omega)
    have bk := o_back (d := d) (N := m + 5) (f := 3213 * (hk - 1)) h2.nw ⟨q.2.1, by rw [q.2.2]; omega, by rw [q.2.2]; omega⟩ (by omega) (by omega)
    have sn := g3 (hk - 1) (by omega) (by omega)
    have o := ho (hk - 1) (by omega) (by omega)
    rw [← eY] at sn
    have mx := hA2.back sn o.1 o.2.1
    have mf2 : Mf (sv (sv w m 0 0) m 24 (hk - 1)) (sa (sv (sv w m 0 0) m 24 (hk - 1)) (m + 2) (fun x => if 2607 ≤ x ∧ x < 5820 then gv (sv (sv w m 0 0) m 24 (hk - 1)) (m + 5) (3213 * (hk - 1) + (x - 2607)) else gv (sv (sv w m 0 0) m 24 (hk - 1)) (m + 2) x)) (fun r j => r = m + 2 ∧ (2607 ≤ j ∧ j < 5820)) := sa_mf (fun x hx => by rw [if_neg hx])
    refine ⟨_, xX12_undo (Rn.ret ?_), MoI.sa h2.nw mx, ⟨by rw [mf2.gvE (by omega)]; exact e1, by omega, fun j j0 j1 => ?_⟩, (mf.trans mf2).mono (fun r j z => by omega)⟩
    · rw [eX12_undo_0, if_pos h.1.1, wl_eq, if_pos k1, e0, if_neg c, if_pos k1, if_pos k1, wl_eq, w32_eq (by omega) (by omega), if_pos h2.1.1, if_pos h2.1.1, if_pos h2.1.1, q.1, e1, w32_eq (by omega) (by omega), bk]
      simp only [bN]
      rw [kdA, if_pos h2.1.1, mf2.gvE (by omega), e1]
    · have z := g3 j j0 (by omega)
      rw [show gv (sa (sv (sv w m 0 0) m 24 (hk - 1)) (m + 2) (fun x => if 2607 ≤ x ∧ x < 5820 then gv (sv (sv w m 0 0) m 24 (hk - 1)) (m + 5) (3213 * (hk - 1) + (x - 2607)) else gv (sv (sv w m 0 0) m 24 (hk - 1)) (m + 2) x)) (m + 5) = gv w (m + 5) from funext fun x => by rw [mf2.gvE (by omega), mf.gvE (by omega)]]
      exact z
end MD
