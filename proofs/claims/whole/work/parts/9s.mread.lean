/-! ===== a sentence of the reference: its nodes ===== -/
/-- node k of X says f, of rooms with R rows -/
def Nd (X : Int → Int) (R : Int) : Nat → Int → Sb → Prop
  | 0, _, _ => False
  | g + 1, k, f => (0 ≤ k ∧ k ≤ (g : Int)) ∧
    ((X (4 * k) = 1 ∧ ∃ f1, Nd X R g (X (4 * k + 1)) f1 ∧ ∀ A r, A.1 = R → isR A r → f A r = !f1 A r) ∨
     (X (4 * k) = 2 ∧ ∃ f1 f2, Nd X R g (X (4 * k + 1)) f1 ∧ Nd X R g (X (4 * k + 2)) f2 ∧ ∀ A r, A.1 = R → isR A r → f A r = (f1 A r && f2 A r)) ∨
     (X (4 * k) = 3 ∧ ∃ f1 f2, Nd X R g (X (4 * k + 1)) f1 ∧ Nd X R g (X (4 * k + 2)) f2 ∧ ∀ A r, A.1 = R → isR A r → f A r = (f1 A r || f2 A r)) ∨
     ((64 ≤ X (4 * k) ∧ X (4 * k) ≤ 72) ∧ (X (4 * k) = 66 ∨ X (4 * k) = 67 → 0 ≤ X (4 * k + 1) ∧ X (4 * k + 1) < R) ∧ ∀ A r, A.1 = R → isR A r → f A r = plF (X (4 * k) - 49, X (4 * k + 3), if X (4 * k) = 66 ∨ X (4 * k) = 67 then X (4 * k + 1) else X (4 * k + 2)) A r))
theorem Nd.cg {X Y : Int → Int} {R : Int} : ∀ (g : Nat) (k : Int) (f : Sb), Nd X R g k f → (∀ x, 0 ≤ x → x < 4 * (g : Int) → Y x = X x) → Nd Y R g k f
  | 0, k, f, h, e => h
  | g + 1, k, f, h, e => by
    unfold Nd at h ⊢
    obtain ⟨hk, h⟩ := h
    have e' : ∀ x, 0 ≤ x → x < 4 * (g : Int) → Y x = X x := fun x x0 x1 => e x x0 (by omega)
    rw [e (4 * k) (by omega) (by omega), e (4 * k + 1) (by omega) (by omega), e (4 * k + 2) (by omega) (by omega), e (4 * k + 3) (by omega) (by omega)]
    refine ⟨hk, ?_⟩
    rcases h with ⟨h1, f1, h2, h3⟩ | ⟨h1, f1, f2, h2, h3, h4⟩ | ⟨h1, f1, f2, h2, h3, h4⟩ | h
    · exact Or.inl ⟨h1, f1, Nd.cg g _ _ h2 e', h3⟩
    · exact Or.inr (Or.inl ⟨h1, f1, f2, Nd.cg g _ _ h2 e', Nd.cg g _ _ h3 e', h4⟩)
    · exact Or.inr (Or.inr (Or.inl ⟨h1, f1, f2, Nd.cg g _ _ h2 e', Nd.cg g _ _ h3 e', h4⟩))
    · exact Or.inr (Or.inr (Or.inr h))
theorem Nd.up1 {X : Int → Int} {R : Int} : ∀ (g : Nat) (k : Int) (f : Sb), Nd X R g k f → Nd X R (g + 1) k f
  | 0, k, f, h => h.elim
  | g + 1, k, f, h => by
    unfold Nd at h
    unfold Nd
    obtain ⟨hk, h⟩ := h
    refine ⟨by omega, ?_⟩
    rcases h with ⟨h1, f1, h2, h3⟩ | ⟨h1, f1, f2, h2, h3, h4⟩ | ⟨h1, f1, f2, h2, h3, h4⟩ | h
    · exact Or.inl ⟨h1, f1, Nd.up1 g _ _ h2, h3⟩
    · exact Or.inr (Or.inl ⟨h1, f1, f2, Nd.up1 g _ _ h2, Nd.up1 g _ _ h3, h4⟩)
    · exact Or.inr (Or.inr (Or.inl ⟨h1, f1, f2, Nd.up1 g _ _ h2, Nd.up1 g _ _ h3, h4⟩))
    · exact Or.inr (Or.inr (Or.inr h))
theorem Nd.up {X : Int → Int} {R : Int} {g : Nat} {k : Int} {f : Sb} (h : Nd X R g k f) : ∀ (i : Nat), Nd X R (g + i) k f
  | 0 => h
  | i + 1 => Nd.up1 _ _ _ (Nd.up h i)
theorem Nd.to {X Y : Int → Int} {R : Int} {g g' : Nat} {k : Int} {f : Sb} (h : Nd X R g k f) (hg : g ≤ g') (e : ∀ x, 0 ≤ x → x < 4 * (g : Int) → Y x = X x) : Nd Y R g' k f := by
  have := (Nd.cg g k f h e).up (g' - g)
  rw [show g + (g' - g) = g' by omega] at this
  exact this
theorem Nd.fe {X : Int → Int} {R : Int} {g : Nat} {k : Int} {f f' : Sb} (h : Nd X R g k f) (e : ∀ A r, A.1 = R → isR A r → f' A r = f A r) : Nd X R g k f' := by
  cases g with
  | zero => exact h.elim
  | succ g =>
    unfold Nd at h ⊢
    obtain ⟨hk, h⟩ := h
    refine ⟨hk, ?_⟩
    rcases h with ⟨h1, f1, h2, h3⟩ | ⟨h1, f1, f2, h2, h3, h4⟩ | ⟨h1, f1, f2, h2, h3, h4⟩ | ⟨h1, h2, h3⟩
    · exact Or.inl ⟨h1, f1, h2, fun A r a b => (e A r a b).trans (h3 A r a b)⟩
    · exact Or.inr (Or.inl ⟨h1, f1, f2, h2, h3, fun A r a b => (e A r a b).trans (h4 A r a b)⟩)
    · exact Or.inr (Or.inr (Or.inl ⟨h1, f1, f2, h2, h3, fun A r a b => (e A r a b).trans (h4 A r a b)⟩))
    · exact Or.inr (Or.inr (Or.inr ⟨h1, h2, fun A r a b => (e A r a b).trans (h3 A r a b)⟩))
abbrev smP (m r j : Int) : Prop := (r = m ∧ ((5 ≤ j ∧ j ≤ 13) ∨ (35 ≤ j ∧ j ≤ 38))) ∨ r = m + 15
/-- the array with a node more -/
def nodX (X : Int → Int) (k a b c e : Int) : Int → Int := fun x => if x = 4 * k then a else if x = 4 * k + 1 then b else if x = 4 * k + 2 then c else if x = 4 * k + 3 then e else X x
theorem nodX_lo {X : Int → Int} {k a b c e x : Int} (h : x < 4 * k) : nodX X k a b c e x = X x := by
  unfold nodX
  rw [if_neg (by omega), if_neg (by omega), if_neg (by omega), if_neg (by omega)]
theorem nodX_0 {X : Int → Int} {k a b c e : Int} : nodX X k a b c e (4 * k) = a := if_pos rfl
theorem nodX_1 {X : Int → Int} {k a b c e : Int} : nodX X k a b c e (4 * k + 1) = b := by
  unfold nodX
  rw [if_neg (by omega), if_pos rfl]
theorem nodX_2 {X : Int → Int} {k a b c e : Int} : nodX X k a b c e (4 * k + 2) = c := by
  unfold nodX
  rw [if_neg (by omega), if_neg (by omega), if_pos rfl]
theorem nodX_3 {X : Int → Int} {k a b c e : Int} : nodX X k a b c e (4 * k + 3) = e := by
  unfold nodX
  rw [if_neg (by omega), if_neg (by omega), if_neg (by omega), if_pos rfl]
section MSE
variable {d : Nat} {w : sW} {m : Int} {t : Int → Int} {n most : Int} {A : Rm}
theorem o_saysOne (hM : MSh w m) {k : Int} (h35 : gv w m 35 = k) (hk : 0 ≤ k ∧ k < 60) (a b c e : Int) : ∃ w', Ex pro (d + 1) 265 w [rV m, iV a, iV b, iV c, iV e] = some (some (iV k), w') ∧ gv w' m 35 = k + 1 ∧ (∀ x, gv w' (m + 15) x = nodX (gv w (m + 15)) k a b c e x) ∧ Mf w w' (fun r j => r = m + 15 ∨ (r = m ∧ j = 35)) := by
  have k10 := hM.1.1
  have m32 := hM.1.2
  have q15 := hM.2.2.2.2.2.2.2.2.2.2.2.2.2.2.2
  have m1 := Mf.svI w (m + 15) (4 * k) a
  have m2 := Mf.svI (sv w (m + 15) (4 * k) a) (m + 15) (4 * k + 1) b
  have m3 := Mf.svI (sv (sv w (m + 15) (4 * k) a) (m + 15) (4 * k + 1) b) (m + 15) (4 * k + 2) c
  have m4 := Mf.svI (sv (sv (sv w (m + 15) (4 * k) a) (m + 15) (4 * k + 1) b) (m + 15) (4 * k + 2) c) (m + 15) (4 * k + 3) e
  have m5 := Mf.svI (sv (sv (sv (sv w (m + 15) (4 * k) a) (m + 15) (4 * k + 1) b) (m + 15) (4 * k + 2) c) (m + 15) (4 * k + 3) e) m 35 (k + 1)
  have mm : Mf w (sv (sv (sv (sv (sv w (m + 15) (4 * k) a) (m + 15) (4 * k + 1) b) (m + 15) (4 * k + 2) c) (m + 15) (4 * k + 3) e) m 35 (k + 1)) (fun r j => r = m + 15 ∨ (r = m ∧ j = 35)) := (m1.trans (m2.trans (m3.trans (m4.trans m5)))).mono (fun r j z => by omega)
  refine ⟨_, xX12_saysOne (Rn.ret ?_), gvSS _ _ _ _, fun x => ?_, mm⟩
  · have w0 : w32 (4 * k) = 4 * k := w32_eq (by omega) (by omega)
    have w1 : w32 (4 * k + 1) = 4 * k + 1 := w32_eq (by omega) (by omega)
    have w2 : w32 (4 * k + 2) = 4 * k + 2 := w32_eq (by omega) (by omega)
    have w3 : w32 (4 * k + 3) = 4 * k + 3 := w32_eq (by omega) (by omega)
    have p1 : gv (sv w (m + 15) (4 * k) a) m 34 = m + 15 := by rw [m1.gvE (by omega)]; exact q15.1
    have p2 : gv (sv (sv w (m + 15) (4 * k) a) (m + 15) (4 * k + 1) b) m 34 = m + 15 := by rw [m2.gvE (by omega)]; exact p1
    have p3 : gv (sv (sv (sv w (m + 15) (4 * k) a) (m + 15) (4 * k + 1) b) (m + 15) (4 * k + 2) c) m 34 = m + 15 := by rw [m3.gvE (by omega)]; exact p2
    have p4 : gv (sv (sv (sv (sv w (m + 15) (4 * k) a) (m + 15) (4 * k + 1) b) (m + 15) (4 * k + 2) c) (m + 15) (4 * k + 3) e) m 35 = k := by rw [m4.gvE (by omega), m3.gvE (by omega), m2.gvE (by omega), m1.gvE (by omega)]; exact h35
    have k1 : kd (sv w (m + 15) (4 * k) a) m = 10 := k10
    have k2 : kd (sv (sv w (m + 15) (4 * k) a) (m + 15) (4 * k + 1) b) m = 10 := k10
    have k3 : kd (sv (sv (sv w (m + 15) (4 * k) a) (m + 15) (4 * k + 1) b) (m + 15) (4 * k + 2) c) m = 10 := k10
    have k4 : kd (sv (sv (sv (sv w (m + 15) (4 * k) a) (m + 15) (4 * k + 1) b) (m + 15) (4 * k + 2) c) (m + 15) (4 * k + 3) e) m = 10 := k10
    have k5 : kd (sv (sv (sv (sv (sv w (m + 15) (4 * k) a) (m + 15) (4 * k + 1) b) (m + 15) (4 * k + 2) c) (m + 15) (4 * k + 3) e) m 35 (k + 1)) m = 10 := k10
    have ib : ∀ x, 0 ≤ x ∧ x < 240 → (kd w (m + 15) = 20 ∧ 32 ≤ m + 15) ∧ 0 ≤ x ∧ x < ln w (m + 15) := fun x hx => ⟨⟨q15.2.1, by omega⟩, hx.1, by rw [q15.2.2]; exact hx.2⟩
    have j1 : (kd (sv w (m + 15) (4 * k) a) (m + 15) = 20 ∧ 32 ≤ m + 15) ∧ 0 ≤ 4 * k + 1 ∧ 4 * k + 1 < ln (sv w (m + 15) (4 * k) a) (m + 15) := ib _ (by omega)
    have j2 : (kd (sv (sv w (m + 15) (4 * k) a) (m + 15) (4 * k + 1) b) (m + 15) = 20 ∧ 32 ≤ m + 15) ∧ 0 ≤ 4 * k + 2 ∧ 4 * k + 2 < ln (sv (sv w (m + 15) (4 * k) a) (m + 15) (4 * k + 1) b) (m + 15) := ib _ (by omega)
    have j3 : (kd (sv (sv (sv w (m + 15) (4 * k) a) (m + 15) (4 * k + 1) b) (m + 15) (4 * k + 2) c) (m + 15) = 20 ∧ 32 ≤ m + 15) ∧ 0 ≤ 4 * k + 3 ∧ 4 * k + 3 < ln (sv (sv (sv w (m + 15) (4 * k) a) (m + 15) (4 * k + 1) b) (m + 15) (4 * k + 2) c) (m + 15) := ib _ (by omega)
    rw [eX12_saysOne_0, if_pos k10, if_pos k10, h35, q15.1, w0, w1, w2, w3, if_pos (ib _ (by omega)), wl_eq, if_pos k1, p1, if_pos j1, wl_eq, if_pos k2, p2, if_pos j2, wl_eq, if_pos k3, p3, if_pos j3, wl_eq, if_pos k4, if_pos k4, p4, w32_eq (x := k + 1) (by omega) (by omega), wl_eq, if_pos k5, gvSS, w32_eq (by omega) (by omega), show k + 1 - 1 = k by omega]
  · rw [m5.gvE (by omega)]
    simp only [gvS]
    unfold nodX
    by_cases c0 : x = 4 * k + 3
    · rw [if_pos ⟨trivial, c0⟩, if_neg (by omega), if_neg (by omega), if_neg (by omega), if_pos c0]
    · rw [if_neg (fun z => c0 z.2)]
      by_cases c1 : x = 4 * k + 2
      · rw [if_pos ⟨trivial, c1⟩, if_neg (by omega), if_neg (by omega), if_pos c1]
      · rw [if_neg (fun z => c1 z.2)]
        by_cases c2 : x = 4 * k + 1
        · rw [if_pos ⟨trivial, c2⟩, if_neg (by omega), if_pos c2]
        · rw [if_neg (fun z => c2 z.2)]
          by_cases c3 : x = 4 * k
          · rw [if_pos ⟨trivial, c3⟩, if_pos c3]
          · rw [if_neg (fun z => c3 z.2), if_neg c3, if_neg c2, if_neg c1, if_neg c0]
/-- where the reference's reading of a sentence stands -/
def StM (w : sW) (m : Int) (t : Int → Int) (n most : Int) (A : Rm) (p c : Int) (k : Nat) (wi : Int) : Prop := RsM w m t n most (0, 0, p) ∧ NmM w m A ∧ gv w m 35 = (k : Int) ∧ gv w m 36 = c ∧ gv w m 37 = wi ∧ (0 ≤ c ∧ c ≤ 20)
/-- what a reading leaves: at most b nodes -/
def PoM (w w' : sW) (m : Int) (t : Int → Int) (n most : Int) (A : Rm) (R : Rs) (k : Nat) (wi b : Int) : Prop := RsM w' m t n most R.1 ∧ Mf w w' (smP m) ∧ (R.1.1 = 0 → ∃ k' : Nat, StM w' m t n most A R.1.2.2 R.2.1 k' wi ∧ k ≤ k' ∧ (k' : Int) ≤ b + 2 * R.2.1 ∧ (∀ x, 0 ≤ x → x < 4 * (k : Int) → gv w' (m + 15) x = gv w (m + 15) x) ∧ Nd (gv w' (m + 15)) A.1 k' (gv w' m 38) R.2.2)
def OneM (d : Nat) (m : Int) (t : Int → Int) (n most : Int) (A : Rm) (wi : Int) (sa : Int → Int → Rs) : Prop := ∀ (w : sW) (p c : Int) (k : Nat), StM w m t n most A p c k wi → (k : Int) ≤ 2 * c → ∃ w', Ex pro d 268 w [rV m] = some (some (iV (okR (sa p c).1.1)), w') ∧ PoM w w' m t n most A (sa p c) k wi (k - 2 * c - 1)
def CndM (d : Nat) (m : Int) (t : Int → Int) (n most : Int) (A : Rm) (wi : Int) (sa : Int → Int → Rs) : Prop := ∀ (w : sW) (p c : Int) (k : Nat), StM w m t n most A p c k wi → (k : Int) ≤ 2 * c → ∃ w', Ex pro d 266 w [rV m] = some (some (iV (okR (cdT t n most sa p c).1.1)), w') ∧ PoM w w' m t n most A (cdT t n most sa p c) k wi (k - 2 * c - 1)
theorem StM.k10 {p c wi : Int} {k : Nat} (h : StM w m t n most A p c k wi) : kd w m = 10 := h.2.1.1.1.1
/-- a node more, that is the top then -/
theorem o_node {p c wi : Int} {k : Nat} (h : StM w m t n most A p c k wi) (hk : k < 60) (a b e f : Int) : ∃ w', Ex pro (d + 1) 265 w [rV m, iV a, iV b, iV e, iV f] = some (some (iV (k : Int)), w') ∧ StM w' m t n most A p c (k + 1) wi ∧ (∀ x, gv w' (m + 15) x = nodX (gv w (m + 15)) k a b e f x) ∧ Mf w w' (smP m) := by
  obtain ⟨h1, h2, h3, h4, h5, h6⟩ := h
  obtain ⟨w', a1, a2, a3, a4⟩ := o_saysOne (d := d) h2.1 h3 (by omega) a b e f
  refine ⟨w', a1, ⟨h1.mf a4 (fun j j0 j1 => by omega) (fun j => by omega), h2.mf a4 (fun j z => by omega) (by omega) (fun j => by omega), ?_, by rw [a4.gvE (by omega)]; exact h4, by rw [a4.gvE (by omega)]; exact h5, h6⟩, a3, a4.mono (fun r j z => by omega)⟩
  rw [a2]
  omega
theorem StM.mf {w' : sW} {p c wi : Int} {k : Nat} {P : Int → Int → Prop} (h : StM w m t n most A p c k wi) (g : Mf w w' P) (h1 : ∀ j, j ≠ 38 → ¬ P m j) (h2 : ∀ j, ¬ P (m + 1) j) (h3 : ∀ j, ¬ P (m + 2) j) (h4 : ∀ j, ¬ P (m + 8) j) : StM w' m t n most A p c k wi := by
  obtain ⟨a1, a2, a3, a4, a5, a6⟩ := h
  exact ⟨a1.mf g (fun j j0 j1 => h1 j (by omega)) h2, a2.mf g (fun j z => h1 j (by omega)) (h3 0) h4, by rw [g.gvE (h1 _ (by omega))]; exact a3, by rw [g.gvE (h1 _ (by omega))]; exact a4, by rw [g.gvE (h1 _ (by omega))]; exact a5, a6⟩
/-- the next token -/
theorem o_nextM {p c wi : Int} {k : Nat} (h : StM w m t n most A p c k wi) (h2 : 2 ≤ tkK t n most p) : ∃ w', Ex pro (d + 2) 159 w [rV m] = some (none, w') ∧ StM w' m t n most A (tkT t n most p) c k wi ∧ Mf w w' (fun r j => r = m ∧ goJ j) := by
  obtain ⟨a1, a2, a3, a4, a5, a6⟩ := h
  obtain ⟨r1, r2, r3, r4⟩ := a1.1 rfl
  have ti := tk_in (t := t) (n := n) (most := most) (p := p) h2
  have hp : 0 ≤ p := r3
  obtain ⟨w', b1, b2, b3⟩ := o_next (d := d) r1 h2 r3
  refine ⟨w', b1, ⟨⟨fun _ => ⟨b2, rfl, by show 0 ≤ tkT t n most p; omega, by rw [b3.gvE (by omega)]; exact r4⟩, fun z => absurd rfl z⟩, a2.mf b3 (fun j z => by omega) (by omega) (fun j => by omega), by rw [b3.gvE (by omega)]; exact a3, by rw [b3.gvE (by omega)]; exact a4, by rw [b3.gvE (by omega)]; exact a5, a6⟩, b3⟩
end MSE
