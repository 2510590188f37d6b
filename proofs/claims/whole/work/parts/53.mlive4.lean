/-! ===== every deed of the reference ===== -/
section ML4
variable {d : Nat} {w : sW} {m : Int} {A : Rm}
theorem o_live (h : NwSh w m) {X : Int → Int} (g : MX X A) {e r i n : Int} (hd : dOk A e r i n) (hw : whyM A e r i n = 0) : ∃ X', Ex pro (d + 6) 236 (sa w (m + 2) X) [rV m, iV e, iV r, iV i, iV n] = some (none, sa w (m + 2) X') ∧ MX X' (actM A e r i n) ∧ ∀ x, x < 2607 ∨ 5820 ≤ x → X' x = X x := by
  have M := MoI.sa h g
  have k := M.1.1
  have m32 := h.2.2.2.2
  have gA := gvA_self w (m + 2) X
  have l2 := M.l2
  obtain ⟨g1, g2, g3, g4, g5, g6, g7⟩ := hd
  by_cases c0 : e = 0
  · subst c0
    have hr := g2 (by omega)
    have r4 := M.r4 hr
    rw [whyM_0 hr] at hw
    have z1 : 0 ≤ i ∧ i ≤ nA A r := by
      by_cases z : 0 ≤ i ∧ i ≤ nA A r
      · exact z
      · rw [if_neg z] at hw; omega
    rw [if_pos z1] at hw
    have z2 : nA A r < 600 := by
      by_cases z : nA A r < 600
      · exact z
      · rw [if_neg z] at hw; omega
    obtain ⟨X', e1, e2, e3⟩ := MX.put (d := d + 2) h g hr z1 z2 (g4 (by omega))
    refine ⟨X', xX12_live (Rn.ret ?_), ?_, fun x hx => e3 x (by unfold rowC; omega)⟩
    · rw [eX12_live_0, if_pos rfl, if_pos k, e1]
      simp only [bN]
    · rw [actM_0]
      exact e2
  by_cases c1 : e = 1
  · subst c1
    have hr := g2 (by omega)
    have r4 := M.r4 hr
    have n6 := M.n6 hr
    rw [whyM_1 hr] at hw
    have z1 : 0 ≤ i ∧ i < nA A r := by
      by_cases z : 0 ≤ i ∧ i < nA A r
      · exact z
      · rw [if_neg z] at hw; omega
    rw [if_pos z1] at hw
    have z2 : bA A r i ≠ n := by
      intro z
      rw [if_pos z] at hw; omega
    have b := M.b01 hr z1.1 z1.2
    have n01 := g4 (by omega)
    have q := g.2.2.2.2.1 r hr.1 hr.2
    have q1 : X (3420 + 600 * r + i) = bA A r i := q.1.2.2.1 i z1.1 z1.2
    have t := q.tur (i := i) (n := 1) r4 z1.1 (by show i + 1 ≤ nA A r; omega)
    have e0 : turX X r i (i + 1) = updI X (3420 + 600 * r + i) n := funext fun x => by
      unfold turX updI
      by_cases y : x = 3420 + 600 * r + i
      · rw [if_pos (by omega), if_pos y, y, q1]
        omega
      · rw [if_neg (by omega), if_neg y]
    rw [e0] at t
    rw [actM_1]
    refine ⟨_, xX12_live (Rn.ret ?_), g.row hr t (fun x hx => updI_ne (fun y => hx (by unfold rowC; omega))), fun x hx => updI_ne (by omega)⟩
    rw [eX12_live_0, if_neg (by omega), if_pos rfl, if_pos k, w32_eq (x := 600 * r) (by omega) (by omega), w32_eq (x := 3420 + 600 * r) (by omega) (by omega), w32_eq (x := 3420 + 600 * r + i) (by omega) (by omega), M.1.2.1, if_pos ⟨⟨M.1.2.2.1, by omega⟩, by omega, by rw [M.1.2.2.2.1]; omega⟩, wl_eq, sa_sv]
  by_cases c2 : e = 2
  · subst c2
    have hr := g2 (by omega)
    have nn := g5 (by omega)
    have r4 := M.r4 hr
    rw [whyM_2 hr] at hw
    have z1 : 0 ≤ i ∧ 0 ≤ n ∧ i + n ≤ nA A r := by
      by_cases z : 0 ≤ i ∧ 0 ≤ n ∧ i + n ≤ nA A r
      · exact z
      · rw [if_neg z] at hw; omega
    obtain ⟨X', e1, e2, e3⟩ := l_cut (d := d + 1) h z1.1 nn.2 n.toNat 0 X A (by omega) (by omega) g hr (by omega)
    refine ⟨X', xX12_live (Rn.cut ?_ e1), ?_, fun x hx => e3 x (by unfold rowC; omega)⟩
    · rw [eX12_live_0, if_neg (by omega), if_neg (by omega), if_pos rfl]
    · rw [actM_2]
      rw [show ((n.toNat : Nat) : Int) = n by omega] at e2
      exact e2
  by_cases c3 : e = 3
  · subst c3
    have hr := g2 (by omega)
    have nn := g5 (by omega)
    have r4 := M.r4 hr
    have n6 := M.n6 hr
    rw [whyM_3 hr] at hw
    have z1 : 0 ≤ i ∧ 0 ≤ n ∧ i + n ≤ nA A r := by
      by_cases z : 0 ≤ i ∧ 0 ≤ n ∧ i + n ≤ nA A r
      · exact z
      · rw [if_neg z] at hw; omega
    have q := g.2.2.2.2.1 r hr.1 hr.2
    have t := q.tur (i := i) (n := n) r4 z1.1 z1.2.2
    have l := l_turn (d := d + 4) h r4 z1.1 (n := n) (by omega) n.toNat i X (by omega) (by omega) (fun x x0 x1 => by
      rw [q.1.2.2.1 x (by omega) (by show x < nA A r; omega)]
      exact q.2.2 x (by omega) (by show x < nA A r; omega))
    refine ⟨_, xX12_live (Rn.cut ?_ l), ?_, fun x hx => by unfold turX; rw [if_neg (by omega)]⟩
    · rw [eX12_live_0, if_neg (by omega), if_neg (by omega), if_neg (by omega), if_pos rfl]
    · rw [actM_3]
      exact g.row hr t (fun x hx => by unfold turX; rw [if_neg (fun y => hx (by unfold rowC; omega))])
  by_cases c4 : e = 4
  · subst c4
    have hr := g2 (by omega)
    obtain ⟨hn, hrn⟩ := g3 (by omega)
    have n6 := M.n6 hr
    have n6' := M.n6 hn
    rw [whyM_4 hr] at hw
    unfold whyMv at hw
    have z1 : isR A n ∧ isR A r ∧ (0 : Int) ≤ 0 ∧ 0 < nA A n := by
      by_cases z : isR A n ∧ isR A r ∧ (0 : Int) ≤ 0 ∧ 0 < nA A n
      · exact z
      · rw [if_neg z] at hw; omega
    rw [if_pos z1] at hw
    have z2 : nA A r + nA A n - 0 ≤ 600 := by
      by_cases z : 600 < nA A r + nA A n - 0
      · rw [if_pos z] at hw; omega
      · omega
    obtain ⟨X', e1, e2, e3⟩ := o_moves (d := d) h g hn hr (by omega) (i := 0) (by omega) (by omega)
    refine ⟨X', xX12_live (Rn.ret ?_), ?_, e3⟩
    · rw [eX12_live_0, if_neg (by omega), if_neg (by omega), if_neg (by omega), if_neg (by omega), if_pos rfl, if_pos k, e1]
      simp only [bN]
    · rw [actM_4]
      refine e2.cg ⟨rfl, rfl, fun x x0 x1 => ?_, rfl, fun _ _ _ => rfl⟩
      by_cases y : x = n
      · subst y
        rw [setRow_at, setRow_at]
        refine ⟨?_, ?_, fun i' i0 i1 => ?_, fun j j0 j1 => ?_⟩
        · show nA A x - (nA A x - 0) = 0; omega
        · show (if nA A x - (nA A x - 0) = 0 then (0 : Int) else _) = 0; rw [if_pos (by omega)]
        · have i1' : i' < nA A x - (nA A x - 0) := i1
          omega
        · have j1' : j < (if nA A x - (nA A x - 0) = 0 then (0 : Int) else _) := j1
          rw [if_pos (by omega)] at j1'; omega
      · rw [setRow_ne _ _ y, setRow_ne _ _ y, show nA A n - 0 = nA A n by omega]
        exact RwE.refl _
  by_cases c5 : e = 5
  · subst c5
    have hr := g2 (by omega)
    obtain ⟨hn, hrn⟩ := g3 (by omega)
    have n6 := M.n6 hr
    have n6' := M.n6 hn
    rw [whyM_5 hr] at hw
    unfold whyMv at hw
    have z1 : isR A r ∧ isR A n ∧ 0 ≤ i ∧ i < nA A r := by
      by_cases z : isR A r ∧ isR A n ∧ 0 ≤ i ∧ i < nA A r
      · exact z
      · rw [if_neg z] at hw; omega
    rw [if_pos z1] at hw
    have z2 : nA A n + nA A r - i ≤ 600 := by
      by_cases z : 600 < nA A n + nA A r - i
      · rw [if_pos z] at hw; omega
      · omega
    obtain ⟨X', e1, e2, e3⟩ := o_moves (d := d) h g hr hn hrn (i := i) (by omega) z2
    refine ⟨X', xX12_live (Rn.ret ?_), ?_, e3⟩
    · rw [eX12_live_0, if_neg (by omega), if_neg (by omega), if_neg (by omega), if_neg (by omega), if_neg (by omega), if_pos rfl, if_pos k, e1]
      simp only [bN]
    · rw [actM_5]
      exact e2
  by_cases c6 : e = 6
  · subst c6
    have nn := g6 (by omega)
    rw [whyM_6] at hw
    have z1 : ¬ (i < 0 ∨ nT A < i) := by
      intro z
      rw [if_pos z] at hw; omega
    rw [if_neg z1] at hw
    have z2 : nT A < 200 := by
      by_cases z : nT A < 200
      · exact z
      · rw [if_neg z] at hw; omega
    have eX : X 2615 = nT A := g.2.2.2.2.2.1
    have l := l_type h (n := n) (i := i) (C := Ex pro (d + 5)) (by omega) (nT A - i).toNat (nT A) X (by omega) (by omega) (by omega)
    refine ⟨_, xX12_live (Rn.cut ?_ l), ?_, fun x hx => by rw [if_neg (by omega), if_neg (by omega), if_neg (by omega)]⟩
    · rw [eX12_live_0, if_neg (by omega), if_neg (by omega), if_neg (by omega), if_neg (by omega), if_neg (by omega), if_neg (by omega), if_pos rfl, if_pos k, if_pos (M.1.g (by omega) (by omega)), M.1.2.1, M.ln]
    · rw [actM_6]
      refine g.let ?_ ?_ (fun x x0 x1 => ?_) (fun x hx => by rw [if_neg (by omega), if_neg (by omega), if_neg (by omega)])
      · show 0 ≤ nT A + 1 ∧ nT A + 1 ≤ 200; omega
      · rw [if_pos rfl, eX]; rfl
      · have x1' : x < nT A + 1 := x1
        have t := fun y (y0 : 0 ≤ y) (y1 : y < nT A) => g.2.2.2.2.2.2.2 y y0 y1
        rw [if_neg (by omega)]
        show _ = insB (tT A) i n x ∧ 0 ≤ insB (tT A) i n x ∧ insB (tT A) i n x < 8
        unfold insB
        by_cases y : x = i
        · rw [if_pos (by omega), if_neg (by omega), if_pos y]
          exact ⟨rfl, by omega, by omega⟩
        · rw [if_neg (by omega)]
          by_cases y2 : x < i
          · rw [if_neg (by omega), if_pos y2]
            exact t x x0 (by omega)
          · rw [if_pos (by omega), if_neg y2, if_neg y, show 2616 + x - 1 = 2616 + (x - 1) by omega]
            exact t (x - 1) (by omega) (by omega)
  · have c7 : e = 7 := by omega
    subst c7
    have nn := g5 (by omega)
    rw [whyM_7] at hw
    have z1 : 0 ≤ i ∧ 0 ≤ n ∧ i + n ≤ nT A := by
      by_cases z : 0 ≤ i ∧ 0 ≤ n ∧ i + n ≤ nT A
      · exact z
      · rw [if_neg z] at hw; omega
    have eX : X 2615 = nT A := g.2.2.2.2.2.1
    have hg := M.1.g (j := 2615) (by omega) (by omega)
    rw [M.1.2.1] at hg
    have l := l_erase h (n := n) nn.1 (C := Ex pro (d + 5)) (200 - i).toNat i (updI X 2615 (nT A - n)) (by omega) (by omega) (by unfold updI; rw [if_pos rfl]; omega)
    have e5 : updI X 2615 (nT A - n) 2615 = nT A - n := by unfold updI; rw [if_pos rfl]
    refine ⟨_, xX12_live (Rn.cut ?_ l), ?_, fun x hx => by rw [if_neg (by omega), updI_ne (by omega)]⟩
    · rw [eX12_live_0, if_neg (by omega), if_neg (by omega), if_neg (by omega), if_neg (by omega), if_neg (by omega), if_neg (by omega), if_neg (by omega), if_pos k, M.1.2.1, if_pos hg, if_pos ⟨⟨M.1.2.2.1, by omega⟩, hg.2⟩, M.ln, w32_eq (by omega) (by omega), wl_eq, sa_sv]
    · rw [actM_7]
      refine g.let ?_ ?_ (fun x x0 x1 => ?_) (fun x hx => by rw [if_neg (by omega), updI_ne (by omega)])
      · show 0 ≤ nT A - n ∧ nT A - n ≤ 200; omega
      · rw [if_neg (by omega), e5]; rfl
      · have x1' : x < nT A - n := x1
        have t := fun y (y0 : 0 ≤ y) (y1 : y < nT A) => g.2.2.2.2.2.2.2 y y0 y1
        show _ = remB (tT A) i n x ∧ 0 ≤ remB (tT A) i n x ∧ remB (tT A) i n x < 8
        unfold remB
        rw [e5]
        by_cases y : x < i
        · rw [if_neg (by omega), updI_ne (by omega), if_pos y]
          exact t x x0 (by omega)
        · rw [if_pos (by omega), if_pos (by omega), updI_ne (by omega), if_neg y, show 2616 + x + n = 2616 + (x + n) by omega]
          exact t (x + n) (by omega) (by omega)
end ML4
