/-! ===== the machine does what the small machine does: the helpers put in ===== -/
/-- the methods but the helpers -/
def infN (k : Nat) : Option sI := if k < 279 then infA k else none
theorem infN_A {k : Nat} {mi : sI} (h : infN k = some mi) : infA k = some mi := by
  unfold infN at h
  by_cases z : k < 279
  · rw [if_pos z] at h; exact h
  · rw [if_neg z] at h; cases h
theorem infN_ok {mid : Nat} {mi : sI} (h : infN mid = some mi) : MOK mi := infA_ok (infN_A h)
def noHi (e : Instr) (tg : Nat) : Bool := match e with
  | .invokevirtual _ | .invokespecial _ | .invokestatic _ => Nat.blt tg 279
  | _ => true
theorem vB_N {own nm : String} {e : Instr} {pc len tg : Nat} {nn : List Nat} {ax : List Int} {sw : List (Int × Nat)} {hh : List Nat} (h : noHi e tg = true) : vB infN own nm e pc len tg nn ax sw hh = vB infA own nm e pc len tg nn ax sw hh := by
  cases e with
  | invokevirtual i =>
    have : tg < 279 := Nat.le_of_ble_eq_true h
    have e1 : infN tg = infA tg := if_pos this
    unfold vB
    rw [e1]
  | invokespecial i =>
    have : tg < 279 := Nat.le_of_ble_eq_true h
    have e1 : infN tg = infA tg := if_pos this
    unfold vB
    rw [e1]
  | invokestatic i =>
    have : tg < 279 := Nat.le_of_ble_eq_true h
    have e1 : infN tg = infA tg := if_pos this
    unfold vB
    rw [e1]
  | _ => rfl
theorem noHi_all : ∀ q ∈ proL, ∀ M, q = .inl M → ∀ e ∈ M.2.2.1, noHi e.2.1 e.2.2.2.1 = true := by
  have h : proL.all (fun q => match q with
    | .inl M => M.2.2.1.all (fun e => noHi e.2.1 e.2.2.2.1)
    | .inr _ => true) = true := by decide +kernel
  intro q hq M e1 e he
  have := List.all_eq_true.mp h q hq
  subst e1
  exact List.all_eq_true.mp this e he
theorem val_N {mid : Nat} {M : sM} {mi : sI} (hp : pro mid = some (.inl M)) (h1 : mi.2.2.2.2.1 = M) (h : VAL infA mi) : VAL infN mi := by
  refine ⟨fun e he => ?_, h.2⟩
  obtain ⟨⟨hh, h3⟩, h2⟩ := h.1 e he
  exact ⟨⟨hh, by rw [vB_N (noHi_all _ (List.mem_of_getElem? hp) M rfl e (by rw [← h1]; exact he))]; exact h3⟩, h2⟩
theorem pro_hi {mid q : Nat} (h : pro mid = some (.inr q)) : (mid = 279 ∧ q = 111) ∨ (mid = 280 ∧ q = 115) ∨ (mid = 281 ∧ q = 116) ∨ (mid = 282 ∧ q = 117) := by
  have h0 : (proL.take 279).all (fun q => match q with
    | .inl _ => true
    | .inr _ => false) = true := by decide +kernel
  have hlen : proL.length = 283 := by decide +kernel
  have hlt : mid < 283 := by
    have := (List.getElem?_eq_some_iff.mp h).1
    omega
  by_cases hm : mid < 279
  · exfalso
    have h1 : (proL.take 279)[mid]? = some (.inr q) := by rw [List.getElem?_take]; rw [if_pos hm]; exact h
    have := List.all_eq_true.mp h0 _ (List.mem_of_getElem? h1)
    cases this
  · rcases (show mid = 279 ∨ mid = 280 ∨ mid = 281 ∨ mid = 282 by omega) with rfl | rfl | rfl | rfl
    · have : (some (.inr 111) : Option (sM ⊕ Nat)) = some (.inr q) := h
      cases this
      exact Or.inl ⟨rfl, rfl⟩
    · have : (some (.inr 115) : Option (sM ⊕ Nat)) = some (.inr q) := h
      cases this
      exact Or.inr (Or.inl ⟨rfl, rfl⟩)
    · have : (some (.inr 116) : Option (sM ⊕ Nat)) = some (.inr q) := h
      cases this
      exact Or.inr (Or.inr (Or.inl ⟨rfl, rfl⟩))
    · have : (some (.inr 117) : Option (sM ⊕ Nat)) = some (.inr q) := h
      cases this
      exact Or.inr (Or.inr (Or.inr ⟨rfl, rfl⟩))
theorem simN {l : Launch} {K : LC} (hLL : lcL K ≤ 100000) : ∀ d, SimC l K infN d (Ex pro d) :=
  Ex_sim hLL (fun mid mi h => infN_ok h) (fun mid M h mi hi => by
    obtain ⟨h1, h2, h3⟩ := pro_ok h (infN_A hi)
    exact ⟨h1, h2, val_N h h1 h3⟩) (fun d _ mid q hq w as r w' _ mi hi => by
    exfalso
    unfold infN at hi
    rcases pro_hi hq with ⟨rfl, -⟩ | ⟨rfl, -⟩ | ⟨rfl, -⟩ | ⟨rfl, -⟩
    · rw [if_neg (by decide)] at hi; cases hi
    · rw [if_neg (by decide)] at hi; cases hi
    · rw [if_neg (by decide)] at hi; cases hi
    · rw [if_neg (by decide)] at hi; cases hi)
theorem valN_of {mid : Nat} {M : sM} {mi : sI} (hp : pro mid = some (.inl M)) (hi : infN mid = some mi) : VAL infN mi := by
  obtain ⟨h1, h2, h3⟩ := pro_ok hp (infN_A hi)
  exact val_N hp h1 h3
theorem hlpA_s {q : Nat} {bs : List sV} (h : hlpA q bs = true) : (q = 111 → ∃ x a b, bs = [rV x, iV a, iV b]) ∧ (q = 115 → ∃ x a b c, bs = [rV x, iV a, iV b, iV c]) ∧ (q = 116 → ∃ x a, bs = [rV x, iV a]) ∧ (q = 117 → ∃ x a b, bs = [rV x, iV a, iV b]) := by
  unfold hlpA at h
  split at h
  · have := Nat.eq_of_beq_eq_true h
    subst this
    exact ⟨fun e => absurd e (by decide), fun e => absurd e (by decide), fun _ => ⟨_, _, rfl⟩, fun e => absurd e (by decide)⟩
  · simp only [Bool.or_eq_true] at h
    rcases h with h | h
    · have := Nat.eq_of_beq_eq_true h
      subst this
      exact ⟨fun _ => ⟨_, _, _, rfl⟩, fun e => absurd e (by decide), fun e => absurd e (by decide), fun e => absurd e (by decide)⟩
    · have := Nat.eq_of_beq_eq_true h
      subst this
      exact ⟨fun e => absurd e (by decide), fun e => absurd e (by decide), fun e => absurd e (by decide), fun _ => ⟨_, _, _, rfl⟩⟩
  · have := Nat.eq_of_beq_eq_true h
    subst this
    exact ⟨fun e => absurd e (by decide), fun _ => ⟨_, _, _, _, rfl⟩, fun e => absurd e (by decide), fun e => absurd e (by decide)⟩
  · cases h
theorem hlp_s {C : sC} {q : Nat} {w : sW} {as : List sV} {r : Option sV} {w' : sW} (h : hlp C q w as = some (r, w')) : ∃ out bs, as = bs ++ [rV out] ∧ hlpA q bs = true ∧ hlpF (C q w bs) out = some (r, w') := by
  unfold hlp at h
  split at h
  · rename_i out ras e0
    cases hb : hlpA q ras.reverse with
    | false => rw [hb] at h; cases h
    | true =>
      rw [hb] at h
      exact ⟨out, ras.reverse, by have := congrArg List.reverse e0; simpa using this, hb, h⟩
  · cases h
theorem sim50 {l : Launch} {K : LC} (hKX : ∀ U, KN K U → KX K U) (hl0 : l.stackTraces = false) (hLL : lcL K ≤ 100000) : SimC l K infA 50 (Ex pro 50) := by
  intro mid w as r w' h hnt
  refine ⟨Ex_ext pro 50 _ _ _ _ _ h, fun mi hinf adr => ?_⟩
  have hS1 := simN (l := l) (K := K) hLL 49
  have hS0 := simN (l := l) (K := K) hLL 48
  cases hp : pro mid with
  | none => exfalso; rw [show Ex pro 50 mid w as = none from by show Ex pro (49 + 1) mid w as = none; simp only [Ex, hp]] at h; cases h
  | some z =>
    cases z with
    | inl M =>
      obtain ⟨e1, e2, e3⟩ := pro_ok hp hinf
      have h2 : Ex pro (49 + 1) mid w as = some (r, w') := h
      rw [ex_inl hp, ← e1] at h2
      exact met_sim (rF := (r, w')) (inf := infN) hLL (infA_ok hinf) e2 (val_N hp e1 e3) (Ex_ext pro 49) hS1 (fun mid mi h => infN_ok h) h2 hnt adr
    | inr q =>
      have h2 : Ex pro (49 + 1) mid w as = some (r, w') := h
      rw [ex_hlp hp] at h2
      obtain ⟨out, bs, rfl, h4, h3⟩ := hlp_s h2
      obtain ⟨s1, s2, s3, s4⟩ := hlpA_s h4
      rcases pro_hi hp with ⟨rfl, rfl⟩ | ⟨rfl, rfl⟩ | ⟨rfl, rfl⟩ | ⟨rfl, rfl⟩
      · obtain ⟨x, a, b, rfl⟩ := s1 rfl
        have hm : (some iH_word : Option sI) = some mi := hinf
        cases hm
        exact h_word (d := 48) hKX hl0 hLL (inf := infN) rfl (fun mid mi h => infN_ok h) (valN_of (mid := 111) (M := mX11_word) rfl rfl) (infA_ok (mid := 279) rfl) hS1 hS0 (by omega) h3 adr
      · obtain ⟨x, a, b, c, rfl⟩ := s2 rfl
        have hm : (some iH_dense : Option sI) = some mi := hinf
        cases hm
        exact h_dense (d := 48) hKX hl0 hLL (inf := infN) rfl (fun mid mi h => infN_ok h) (valN_of (mid := 115) (M := mX11_dense) rfl rfl) (infA_ok (mid := 280) rfl) hS1 hS0 (by omega) h3 adr
      · obtain ⟨x, a, rfl⟩ := s3 rfl
        have hm : (some iH_load : Option sI) = some mi := hinf
        cases hm
        exact h_load (d := 48) hKX hl0 hLL (inf := infN) rfl (fun mid mi h => infN_ok h) (valN_of (mid := 116) (M := mX11_load) rfl rfl) (infA_ok (mid := 281) rfl) hS1 hS0 (by omega) h3 adr
      · obtain ⟨x, a, b, rfl⟩ := s4 rfl
        have hm : (some iH_centre : Option sI) = some mi := hinf
        cases hm
        exact h_centre (d := 48) hKX hl0 hLL (inf := infN) rfl (fun mid mi h => infN_ok h) (valN_of (mid := 117) (M := mX11_centre) rfl rfl) (infA_ok (mid := 282) rfl) hS1 hS0 (by omega) h3 adr
