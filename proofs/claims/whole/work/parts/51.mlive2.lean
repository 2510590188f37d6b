/-! ===== the reference's deeds done ===== -/
theorem gvA_self (w : sW) (N : Int) (X : Int → Int) : gv (sa w N X) N = X := by
  funext j
  rw [gvA, if_pos rfl]
theorem MoI.sa {w : sW} {m : Int} {A : Rm} {X : Int → Int} (h : NwSh w m) (g : MX X A) : MoI (sa w (m + 2) X) m A := ⟨h.sa X, by rw [gvA_self]; exact g⟩
theorem setRow2 (A : Rm) (r : Int) (R R' : Rw) : setRow (setRow A r R) r R' = setRow A r R' := by
  unfold setRow
  simp only [Prod.mk.injEq, true_and, and_true]
  funext x
  split <;> rfl
theorem setRow_self (A : Rm) (r : Int) : setRow A r (A.2.2.2.1 r) = A := by
  unfold setRow
  obtain ⟨a, b, c, e, f⟩ := A
  simp only [Prod.mk.injEq, true_and, and_true]
  funext x
  split
  · rename_i z; rw [z]
  · rfl
theorem setRow_at (A : Rm) (r : Int) (R : Rw) : (setRow A r R).2.2.2.1 r = R := by simp [setRow]
theorem setRow_ne (A : Rm) {r s : Int} (R : Rw) (h : s ≠ r) : (setRow A r R).2.2.2.1 s = A.2.2.2.1 s := by simp [setRow, h]
section ML2
variable {d : Nat} {w : sW} {m : Int} {A : Rm}
/-- takeBit, f times -/
theorem MX.take (h : NwSh w m) {r i : Int} {X : Int → Int} (g : MX X A) (hr : isR A r) (hi : 0 ≤ i) (hn : i < nA A r) : ∃ X', Ex pro (d + 4) 187 (sa w (m + 2) X) [rV m, iV r, iV i] = some (none, sa w (m + 2) X') ∧ MX X' (setRow A r (remR (A.2.2.2.1 r) i 1 A.2.1)) ∧ ∀ x, ¬ rowC r x → X' x = X x := by
  have r4 : 0 ≤ r ∧ r < 4 := by have := g.2.2.1; unfold isR at hr; omega
  obtain ⟨X', e1, e2, e3⟩ := o_takeBit (d := d) h r4 g.2.1 (g.2.2.2.2.1 r hr.1 hr.2) ⟨hi, hn⟩
  exact ⟨X', e1, g.row hr e2 e3, e3⟩
theorem l_cut (h : NwSh w m) {r i n : Int} (hi : 0 ≤ i) (hn : n ≤ 600) : ∀ (f : Nat) (q : Int) (X : Int → Int) (A : Rm), q + f = n → 0 ≤ q → MX X A → isR A r → i + f ≤ nA A r → ∃ X', Rn (Ex pro (d + 4)) mX12_live (75, [some (rV m), none, some (iV r), some (iV i), some (iV n), some (iV q)], [], sa w (m + 2) X) (none, sa w (m + 2) X') ∧ MX X' (setRow A r (remR (A.2.2.2.1 r) i f A.2.1)) ∧ ∀ x, ¬ rowC r x → X' x = X x
  | 0, q, X, A, hq, hq0, g, hr, hf => by
    have e : remR (A.2.2.2.1 r) i ((0 : Nat) : Int) A.2.1 = A.2.2.2.1 r := remR_0 (g.2.2.2.2.1 r hr.1 hr.2).2.1
    refine ⟨X, Rn.ret ?_, ?_, fun _ _ => rfl⟩
    · rw [eX12_live_75, if_neg (by omega)]
    · rw [e, setRow_self]; exact g
  | f + 1, q, X, A, hq, hq0, g, hr, hf => by
    obtain ⟨X1, e1, e2, e3⟩ := MX.take (d := d) h g hr hi (by omega)
    have hr1 : isR (setRow A r (remR (A.2.2.2.1 r) i 1 A.2.1)) r := hr
    have n1 : nA (setRow A r (remR (A.2.2.2.1 r) i 1 A.2.1)) r = nA A r - 1 := by
      show ((setRow A r (remR (A.2.2.2.1 r) i 1 A.2.1)).2.2.2.1 r).1 = _
      rw [setRow_at]; rfl
    obtain ⟨X2, f1, f2, f3⟩ := l_cut h hi hn f (q + 1) X1 _ (by omega) (by omega) e2 hr1 (by omega)
    rw [setRow_at, setRow2] at f2
    have e : remR (remR (A.2.2.2.1 r) i 1 A.2.1) i f A.2.1 = remR (A.2.2.2.1 r) i ((f + 1 : Nat) : Int) A.2.1 := remR_succ (by omega) (by show (f : Int) + 1 ≤ nA A r; omega)
    refine ⟨X2, Rn.cut ?_ f1, ?_, fun x hx => (f3 x hx).trans (e3 x hx)⟩
    · rw [eX12_live_75, if_pos (by omega), if_pos (h.sa X).1, e1]
      simp only [bN]
      rw [w32_eq (by omega) (by omega)]
    · rw [← e]
      exact f2
theorem l_mv47 (h : NwSh w m) {r i n : Int} (hi : 0 ≤ i) (hn : n ≤ 600) : ∀ (f : Nat) (q : Int) (X : Int → Int) (A : Rm), q + f = n → 0 ≤ q → MX X A → isR A r → i + f ≤ nA A r → ∃ X', Rn (Ex pro (d + 4)) mX12_moves (47, [some (rV m), some (iV r), some (iV i), none, some (iV n), some (iV q)], [], sa w (m + 2) X) (none, sa w (m + 2) X') ∧ MX X' (setRow A r (remR (A.2.2.2.1 r) i f A.2.1)) ∧ ∀ x, ¬ rowC r x → X' x = X x
  | 0, q, X, A, hq, hq0, g, hr, hf => by
    have e : remR (A.2.2.2.1 r) i ((0 : Nat) : Int) A.2.1 = A.2.2.2.1 r := remR_0 (g.2.2.2.2.1 r hr.1 hr.2).2.1
    refine ⟨X, Rn.ret ?_, ?_, fun _ _ => rfl⟩
    · rw [eX12_moves_47, if_neg (by omega)]
    · rw [e, setRow_self]; exact g
  | f + 1, q, X, A, hq, hq0, g, hr, hf => by
    obtain ⟨X1, e1, e2, e3⟩ := MX.take (d := d) h g hr hi (by omega)
    have hr1 : isR (setRow A r (remR (A.2.2.2.1 r) i 1 A.2.1)) r := hr
    have n1 : nA (setRow A r (remR (A.2.2.2.1 r) i 1 A.2.1)) r = nA A r - 1 := by
      show ((setRow A r (remR (A.2.2.2.1 r) i 1 A.2.1)).2.2.2.1 r).1 = _
      rw [setRow_at]; rfl
    obtain ⟨X2, f1, f2, f3⟩ := l_mv47 h hi hn f (q + 1) X1 _ (by omega) (by omega) e2 hr1 (by omega)
    rw [setRow_at, setRow2] at f2
    have e : remR (remR (A.2.2.2.1 r) i 1 A.2.1) i f A.2.1 = remR (A.2.2.2.1 r) i ((f + 1 : Nat) : Int) A.2.1 := remR_succ (by omega) (by show (f : Int) + 1 ≤ nA A r; omega)
    refine ⟨X2, Rn.cut ?_ f1, ?_, fun x hx => (f3 x hx).trans (e3 x hx)⟩
    · rw [eX12_moves_47, if_pos (by omega), if_pos (h.sa X).1, e1]
      simp only [bN]
      rw [w32_eq (by omega) (by omega)]
    · rw [← e]
      exact f2
theorem MX.put (h : NwSh w m) {r i v : Int} {X : Int → Int} (g : MX X A) (hr : isR A r) (hi : 0 ≤ i ∧ i ≤ nA A r) (hn : nA A r < 600) (hv : v = 0 ∨ v = 1) : ∃ X', Ex pro (d + 3) 185 (sa w (m + 2) X) [rV m, iV r, iV i, iV v] = some (none, sa w (m + 2) X') ∧ MX X' (setRow A r (insR (A.2.2.2.1 r) i v A.2.1)) ∧ ∀ x, ¬ rowC r x → X' x = X x := by
  have r4 : 0 ≤ r ∧ r < 4 := by have := g.2.2.1; unfold isR at hr; omega
  obtain ⟨X', e1, e2, e3⟩ := o_putBit (d := d) h r4 g.2.1 (g.2.2.2.2.1 r hr.1 hr.2) hn hi hv
  exact ⟨X', e1, g.row hr e2 e3, e3⟩
theorem l_mv12 (h : NwSh w m) {r i t n : Int} (hi : 0 ≤ i) (hr : isR A r) (ht : isR A t) (hrt : r ≠ t) (hn : n = nA A r - i) : ∀ (f : Nat) (q : Int) (X : Int → Int) (R : Rw), q + f = n → 0 ≤ q → MX X (setRow A t R) → R.1 + f ≤ 600 → ∃ X', (∀ res, Rn (Ex pro (d + 4)) mX12_moves (47, [some (rV m), some (iV r), some (iV i), none, some (iV n), some (iV 0)], [], sa w (m + 2) X') res → Rn (Ex pro (d + 4)) mX12_moves (12, [some (rV m), some (iV r), some (iV i), some (iV t), some (iV n), some (iV q)], [], sa w (m + 2) X) res) ∧ MX X' (setRow A t (appR (bA A r) A.2.1 (i + q) f R)) ∧ ∀ x, ¬ rowC t x → X' x = X x
  | 0, q, X, R, hq, hq0, g, hf => by
    refine ⟨X, fun res k => Rn.cut ?_ k, g, fun _ _ => rfl⟩
    rw [eX12_moves_12, if_neg (by omega)]
  | f + 1, q, X, R, hq, hq0, g, hf => by
    have M := MoI.sa h g
    have hr' : isR (setRow A t R) r := hr
    have ht' : isR (setRow A t R) t := ht
    have er : (setRow A t R).2.2.2.1 r = A.2.2.2.1 r := setRow_ne A R hrt
    have et : (setRow A t R).2.2.2.1 t = R := setRow_at A t R
    have n6 := M.n6 hr'
    have n6t := M.n6 ht'
    have enr : nA (setRow A t R) r = nA A r := by show ((setRow A t R).2.2.2.1 r).1 = _; rw [er]
    have ent : nA (setRow A t R) t = R.1 := by show ((setRow A t R).2.2.2.1 t).1 = _; rw [et]
    have ebr : bA (setRow A t R) r = bA A r := by show ((setRow A t R).2.2.2.1 r).2.1 = _; rw [er]
    have b1 := M.b01 hr' (i := i + q) (by omega) (by omega)
    have bb := M.bit (d := d + 3) hr' (i := i + q) (by omega) (by omega)
    rw [ebr] at b1 bb
    obtain ⟨X1, e1, e2, e3⟩ := MX.put (d := d + 1) h g ht' (i := R.1) (v := bA A r (i + q)) (by omega) (by omega) b1
    rw [et, setRow2] at e2
    obtain ⟨X2, f1, f2, f3⟩ := l_mv12 h hi hr ht hrt hn f (q + 1) X1 _ (by omega) (by omega) e2 (by show R.1 + 1 + (f : Int) ≤ 600; omega)
    rw [show i + (q + 1) = i + q + 1 by omega] at f2
    refine ⟨X2, fun res k => Rn.cut ?_ (f1 res k), f2, fun x hx => (f3 x hx).trans (e3 x hx)⟩
    rw [eX12_moves_12, if_pos (by omega), if_pos M.1.1, M.size ht', ent]
    simp only [bI]
    rw [if_pos M.1.1, w32_eq (x := i + q) (by omega) (by omega), bb]
    simp only []
    rw [if_pos M.1.1, e1]
    simp only [bN]
    rw [w32_eq (by omega) (by omega)]
theorem o_moves (h : NwSh w m) {r i t : Int} {X : Int → Int} (g : MX X A) (hr : isR A r) (ht : isR A t) (hrt : r ≠ t) (hi : 0 ≤ i ∧ i ≤ nA A r) (hn : nA A t + nA A r - i ≤ 600) : ∃ X', Ex pro (d + 5) 237 (sa w (m + 2) X) [rV m, iV r, iV i, iV t] = some (none, sa w (m + 2) X') ∧ MX X' (setRow (setRow A t (appR (bA A r) A.2.1 i (nA A r - i).toNat (A.2.2.2.1 t))) r (remR (A.2.2.2.1 r) i (nA A r - i) A.2.1)) ∧ ∀ x, x < 2607 ∨ 5820 ≤ x → X' x = X x := by
  have M := MoI.sa h g
  have n6 := M.n6 hr
  have n6t := M.n6 ht
  have r4 := M.r4 hr
  have t4 := M.r4 ht
  obtain ⟨X1, g1, g2, g3⟩ := l_mv12 (d := d) h hi.1 hr ht hrt rfl (nA A r - i).toNat 0 X (A.2.2.2.1 t) (by omega) (by omega) (by rw [setRow_self]; exact g) (by show nA A t + _ ≤ 600; omega)
  rw [Int.add_zero] at g2
  obtain ⟨X2, p1, p2, p3⟩ := l_mv47 (d := d) h hi.1 (n := nA A r - i) (by omega) (nA A r - i).toNat 0 X1 _ (by omega) (by omega) g2 (r := r) hr (by show i + _ ≤ ((setRow A t _).2.2.2.1 r).1; rw [setRow_ne A _ hrt]; show i + _ ≤ nA A r; omega)
  rw [setRow_ne A _ hrt, show (((nA A r - i).toNat : Nat) : Int) = nA A r - i by omega] at p2
  refine ⟨X2, xX12_moves (Rn.cut ?_ (g1 _ p1)), p2, fun x hx => (p3 x (by unfold rowC; omega)).trans (g3 x (by unfold rowC; omega))⟩
  rw [eX12_moves_0, if_pos M.1.1, M.size hr]
  simp only [bI]
  rw [w32_eq (by omega) (by omega)]
end ML2
