/-! ===== drawn ===== -/
/-- f deeds drawn: the room, and how many were done -/
def drF : Nat → Rm → Int → Int → Rm × Int
  | 0, A, _, c => (A, c)
  | f + 1, A, x, c => drF f (dwA A x) (dwX x) (if dwOk A x then c + 1 else c)
theorem drF_keep : ∀ (f : Nat) (A : Rm) (x c : Int), (drF f A x c).1.1 = A.1 ∧ (drF f A x c).1.2.1 = A.2.1 ∧ (drF f A x c).1.2.2.1 = A.2.2.1
  | 0, A, x, c => ⟨rfl, rfl, rfl⟩
  | f + 1, A, x, c => by
    have := drF_keep f (dwA A x) (dwX x) (if dwOk A x then c + 1 else c)
    have k := dwA_keep A x
    simp only [drF]
    rw [this.1, this.2.1, this.2.2]
    exact k
theorem drF_le : ∀ (f : Nat) (A : Rm) (x c : Int), c ≤ (drF f A x c).2 ∧ (drF f A x c).2 ≤ c + f ∧ ((drF f A x c).2 = c → (drF f A x c).1 = A)
  | 0, A, x, c => ⟨by simp [drF], by simp [drF], fun _ => rfl⟩
  | f + 1, A, x, c => by
    have t := drF_le f (dwA A x) (dwX x) (if dwOk A x then c + 1 else c)
    simp only [drF]
    by_cases k : dwOk A x
    · rw [if_pos k] at t ⊢
      exact ⟨by omega, by omega, fun z => by omega⟩
    · rw [if_neg k] at t ⊢
      have e : dwA A x = A := if_neg k
      rw [e] at t ⊢
      exact ⟨by omega, by omega, t.2.2⟩
abbrev drV (A : Rm) (n : Int) : Prop := (1 ≤ n ∧ n ≤ 60) ∧ ¬ A.1 = 0
def drY (A : Rm) (n x : Int) : Int := if 1 ≤ n ∧ n ≤ 60 then (if A.1 = 0 then 0 else (drF n.toNat A x 0).2) else -1
def drA (A : Rm) (n x : Int) : Rm := if drV A n then (drF n.toNat A x 0).1 else A
def drK (A : Rm) (n x hk : Int) : Int := if drV A n ∧ 0 < (drF n.toNat A x 0).2 then pushK hk else hk
def drH (A : Rm) (n x hk : Int) (H : Int → Rm) : Int → Rm := if drV A n ∧ 0 < (drF n.toNat A x 0).2 then pushH hk H A else H
abbrev styP (m r j : Int) : Prop := (r = m ∧ j = 24) ∨ r = m + 5 ∨ r = m + 6 ∨ (r = m + 2 ∧ 2607 ≤ j ∧ j < 5820)
section DN
variable {d : Nat} {w : sW} {m : Int} {A B : Rm} {hk : Int} {H : Int → Rm}
theorem l_stay (h : MSh w m) (hA : MoI w m A) (hh : HsM w m hk H) (hB : SnI (gv w (m + 7)) 0 B) (e1 : B.1 = A.1) (e2 : B.2.1 = A.2.1) : ∃ w1 w2, Ex pro (d + 2) 230 w [rV m, rV (m + 6), iV 0] = some (none, w1) ∧ gv w1 m 19 = m + 7 ∧ kd w1 m = 10 ∧ Ex pro (d + 2) 231 w1 [rV m, rV (m + 7), iV 0] = some (none, w2) ∧ MSh w2 m ∧ MoI w2 m B ∧ HsM w2 m hk H ∧ SnI (gv w2 (m + 6)) 0 A ∧ Mf w w2 (styP m) := by
  have m32 := h.1.2
  have q6 := h.2.2.2.2.2.2.1
  have s1 := o_save (d := d + 1) h.nw (N := m + 6) (f := 0) ⟨q6.2.1, by omega, by rw [q6.2.2]; omega, by rw [q6.2.2]; omega⟩ (by omega) (by omega) (by omega)
  have mf1 := Mf.saI w (m + 6) (fun x => if 0 ≤ x ∧ x < 0 + 3213 then gv w (m + 2) (2607 + (x - 0)) else gv w (m + 6) x)
  generalize hw1 : sa w (m + 6) (fun x => if 0 ≤ x ∧ x < 0 + 3213 then gv w (m + 2) (2607 + (x - 0)) else gv w (m + 6) x) = w1 at s1 mf1
  have h1 := h.mf mf1 (fun j hj => by omega)
  have A1 := hA.mf mf1 (by omega) (fun j hj => by omega)
  have H1 := hh.mf mf1 (by omega) (fun j => by omega)
  have S1 : SnI (gv w1 (m + 6)) 0 A := SnI.mk hA.2 (fun x x0 x1 => by rw [← hw1, gvA, if_pos rfl, if_pos (by omega), show 2607 + (0 + (x - 2607) - 0) = x by omega])
  have B1 : SnI (gv w1 (m + 7)) 0 B := by rw [show gv w1 (m + 7) = gv w (m + 7) from funext fun x => mf1.gvE (by omega)]; exact hB
  have q7 := h1.2.2.2.2.2.2.2.1
  have b1 := o_back (d := d + 1) h1.nw (N := m + 7) (f := 0) ⟨q7.2.1, by rw [q7.2.2]; omega, by rw [q7.2.2]; omega⟩ (by omega) (by omega)
  have mx := A1.back B1 e1 e2
  have mf2 : Mf w1 (sa w1 (m + 2) (fun x => if 2607 ≤ x ∧ x < 5820 then gv w1 (m + 7) (0 + (x - 2607)) else gv w1 (m + 2) x)) (fun r j => r = m + 2 ∧ (2607 ≤ j ∧ j < 5820)) := sa_mf (fun x hx => by rw [if_neg hx])
  refine ⟨w1, _, s1, q7.1, h1.1.1, b1, h1.mf mf2 (fun j hj => by omega), MoI.sa h1.nw mx, H1.mf mf2 (by omega) (fun j => by omega), ?_, (mf1.trans mf2).mono (fun r j z => by omega)⟩
  rw [show gv (sa w1 (m + 2) (fun x => if 2607 ≤ x ∧ x < 5820 then gv w1 (m + 7) (0 + (x - 2607)) else gv w1 (m + 2) x)) (m + 6) = gv w1 (m + 6) from funext fun x => mf2.gvE (by omega)]
  exact S1
theorem o_stay0 (h : MSh w m) (hA : MoI w m A) (hh : HsM w m hk H) (hB : SnI (gv w (m + 7)) 0 B) (e1 : B.1 = A.1) (e2 : B.2.1 = A.2.1) : ∃ w', Ex pro (d + 3) 261 w [rV m, iV 0] = some (none, w') ∧ MoI w' m B ∧ HsM w' m hk H ∧ Mf w w' (styP m) := by
  obtain ⟨w1, w2, a1, a2, a3, a4, a5, a6, a7, a8, a9⟩ := l_stay (d := d) h hA hh hB e1 e2
  have q6 := h.2.2.2.2.2.2.1
  refine ⟨w2, xX12_stay (Rn.ret ?_), a6, a7, a9⟩
  rw [eX12_stay_0, if_pos h.1.1, if_pos h.1.1, q6.1, a1]
  simp only [bN]
  rw [if_pos a3, if_pos a3, a2, a4]
  simp only []
  rw [if_pos trivial]
theorem o_stay1 (h : MSh w m) (hA : MoI w m A) (hh : HsM w m hk H) (hB : SnI (gv w (m + 7)) 0 B) (e1 : B.1 = A.1) (e2 : B.2.1 = A.2.1) : ∃ w', Ex pro (d + 3) 261 w [rV m, iV 1] = some (none, w') ∧ MoI w' m A ∧ HsM w' m (pushK hk) (pushH hk H B) ∧ Mf w w' (styP m) := by
  obtain ⟨w1, w2, a1, a2, a3, a4, a5, a6, a7, a8, a9⟩ := l_stay (d := d) h hA hh hB e1 e2
  have q6 := h.2.2.2.2.2.2.1
  obtain ⟨w3, b1, b2, b3⟩ := o_snap (d := d) a5 a6 a7
  have h3 := a5.mf b3 (fun j hj => by omega)
  have B3 := a6.mf b3 (by omega) (fun j hj => by omega)
  have S3 : SnI (gv w3 (m + 6)) 0 A := by rw [show gv w3 (m + 6) = gv w2 (m + 6) from funext fun x => b3.gvE (by omega)]; exact a8
  have q63 := h3.2.2.2.2.2.2.1
  have c1 := o_back (d := d + 1) h3.nw (N := m + 6) (f := 0) ⟨q63.2.1, by rw [q63.2.2]; omega, by rw [q63.2.2]; omega⟩ (by omega) (by omega)
  have mx := B3.back S3 e1.symm e2.symm
  have mf4 : Mf w3 (sa w3 (m + 2) (fun x => if 2607 ≤ x ∧ x < 5820 then gv w3 (m + 6) (0 + (x - 2607)) else gv w3 (m + 2) x)) (fun r j => r = m + 2 ∧ (2607 ≤ j ∧ j < 5820)) := sa_mf (fun x hx => by rw [if_neg hx])
  refine ⟨_, xX12_stay (Rn.ret ?_), MoI.sa h3.nw mx, b2.mf mf4 (by omega) (fun j => by omega), (a9.trans (b3.trans mf4)).mono (fun r j z => by omega)⟩
  rw [eX12_stay_0, if_pos h.1.1, if_pos h.1.1, q6.1, a1]
  simp only [bN]
  rw [if_pos a3, if_pos a3, a2, a4]
  simp only []
  rw [if_neg (by decide), if_pos a5.1.1, b1]
  simp only []
  rw [if_pos h3.1.1, if_pos h3.1.1, q63.1, c1]
abbrev drwP (m r j : Int) : Prop := (r = m ∧ (j = 0 ∨ j = 24 ∨ j = 29)) ∨ r = m + 5 ∨ r = m + 6 ∨ r = m + 7 ∨ (r = m + 2 ∧ 2607 ≤ j ∧ j < 5820)
theorem l_mDrawn {n : Int} (hn : n ≤ 60) : ∀ (f : Nat) (k c : Int) (w : sW) (A : Rm) (x : Int), k + f = n → 0 ≤ k → 0 ≤ c → c ≤ k → MSh w m → MoI w m A → HsM w m hk H → SnI (gv w (m + 7)) 0 B → B.1 = A.1 → B.2.1 = A.2.1 → gv w m 29 = x → 1 ≤ A.1 → ((drF f A x c).2 = 0 → (drF f A x c).1 = B) → ∃ w', Rn (Ex pro (d + 8)) mX12_drawn (47, [some (rV m), some (iV n), none, some (iV c), some (iV k)], [], w) (some (iV (drF f A x c).2), w') ∧ MoI w' m (drF f A x c).1 ∧ HsM w' m (if 0 < (drF f A x c).2 then pushK hk else hk) (if 0 < (drF f A x c).2 then pushH hk H B else H) ∧ Mf w w' (drwP m)
  | 0, k, c, w, A, x, hf, h0, hc, hck, h, hA, hh, hB, e1, e2, hx, hA1, hz => by
    by_cases z : 0 < c
    · have z' : 0 < (drF 0 A x c).2 := z
      rw [if_pos z', if_pos z']
      obtain ⟨w', a1, a2, a3, a4⟩ := o_stay1 (d := d + 5) h hA hh hB e1 e2
      refine ⟨w', Rn.ret ?_, a2, a3, a4.mono (fun r j z => by omega)⟩
      rw [eX12_drawn_47, if_neg (by omega), if_pos z, if_pos h.1.1, a1]
      simp only [bN]
      rfl
    · have z' : ¬ 0 < (drF 0 A x c).2 := z
      rw [if_neg z', if_neg z']
      obtain ⟨w', a1, a2, a3, a4⟩ := o_stay0 (d := d + 5) h hA hh hB e1 e2
      have eB : (drF 0 A x c).1 = B := hz (by show c = 0; omega)
      refine ⟨w', Rn.ret ?_, by rw [eB]; exact a2, a3, a4.mono (fun r j z => by omega)⟩
      rw [eX12_drawn_47, if_neg (by omega), if_neg z, if_pos h.1.1, a1]
      simp only [bN]
      rfl
  | f + 1, k, c, w, A, x, hf, h0, hc, hck, h, hA, hh, hB, e1, e2, hx, hA1, hz => by
    obtain ⟨X', a1, a2, a3⟩ := o_drawsDeed (d := d) h.nw hA.2 hx hA1
    rw [sa_self] at a1
    have mf1 := Mf.svI w m 29 (dwX x)
    have h1 := h.mf mf1 (fun j hj => by omega)
    have eX : ∀ y, gv (sv w m 29 (dwX x)) (m + 2) y = gv w (m + 2) y := fun y => mf1.gvE (by omega)
    have mf2 : Mf (sv w m 29 (dwX x)) (sa (sv w m 29 (dwX x)) (m + 2) X') (fun r j => r = m + 2 ∧ (2607 ≤ j ∧ j < 5820)) := sa_mf (fun y hy => by rw [eX]; exact a3 y (by omega))
    have mf : Mf w (sa (sv w m 29 (dwX x)) (m + 2) X') (fun r j => (r = m ∧ j = 29) ∨ (r = m + 2 ∧ (2607 ≤ j ∧ j < 5820))) := mf1.trans mf2
    have dk := dwA_keep A x
    obtain ⟨w', b1, b2, b3, b4⟩ := l_mDrawn hn f (k + 1) (if dwOk A x then c + 1 else c) (sa (sv w m 29 (dwX x)) (m + 2) X') (dwA A x) (dwX x) (by omega) (by omega) (by split <;> omega) (by split <;> omega) (h.mf mf (fun j hj => by omega)) (MoI.sa h1.nw a2) (hh.mf mf (by omega) (fun j => by omega)) (by rw [show gv (sa (sv w m 29 (dwX x)) (m + 2) X') (m + 7) = gv w (m + 7) from funext fun y => mf.gvE (by omega)]; exact hB) (by rw [dk.1]; exact e1) (by rw [dk.2.1]; exact e2) (by rw [mf2.gvE (by omega), gvSS]) (by rw [dk.1]; exact hA1) hz
    refine ⟨w', Rn.cut ?_ b1, b2, b3, (mf.trans b4).mono (fun r j z => by omega)⟩
    rw [eX12_drawn_47, if_pos (by omega), if_pos h.1.1, a1]
    simp only [bI, ite10]
    rw [w32_eq (by omega) (by omega), w32_eq (by omega) (by omega)]
    split <;> rfl
end DN
