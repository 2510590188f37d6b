/-! ===== what a sentence says ===== -/
abbrev Sb := Rm → Int → Bool
/-- a step: its word, sign, number -/
abbrev Sp := Int × Int × Int
def msF (A : Rm) (r W : Int) : Int := if W = 19 then nA A r else if W = 20 then cnt (bA A r) 1 0 (nA A r).toNat else if W = 21 then runF (bA A r) (nA A r) else if W = 22 then kA A r else r
def lkF (A : Rm) (r s : Int) : Int := difF (bA A r) (bA A s) (nA A r) (nA A s)
def plF (x : Sp) (A : Rm) (r : Int) : Bool :=
  if x.1 = 15 then decide (nA A r = 0)
  else if x.1 = 16 then decide (Int.tmod (cnt (bA A r) 1 0 (nA A r).toNat) 2 = 0)
  else if x.1 = 17 then decide (isR A x.2.2 ∧ lkF A r x.2.2 = -1)
  else if x.1 = 18 then decide (isR A x.2.2 ∧ (lkF A r x.2.2 = -1 ∨ lkF A r x.2.2 = nA A x.2.2))
  else if x.2.1 = 60 then decide (msF A r x.1 < x.2.2)
  else if x.2.1 = 61 then decide (msF A r x.1 = x.2.2)
  else decide (x.2.2 < msF A r x.1)
/-- a step over the stack -/
def ev1 (A : Rm) (r : Int) (x : Sp) : List Bool → List Bool
  | [] => [plF x A r]
  | [a] => if x.1 = 14 then [!a] else [plF x A r, a]
  | a :: b :: s => if x.1 = 14 then (!a) :: b :: s else if x.1 = 13 then (b && a) :: s else if x.1 = 12 then (b || a) :: s else plF x A r :: a :: b :: s
def evS (A : Rm) (r : Int) : List Sp → List Bool → List Bool
  | [], s => s
  | x :: L, s => evS A r L (ev1 A r x s)
theorem evS_app {A : Rm} {r : Int} : ∀ (L L' : List Sp) (s : List Bool), evS A r (L ++ L') s = evS A r L' (evS A r L s)
  | [], L', s => rfl
  | x :: L, L', s => by
    show evS A r (L ++ L') (ev1 A r x s) = _
    rw [evS_app L L']
    rfl
theorem ev1_not {A : Rm} {r y z : Int} (a : Bool) (s : List Bool) : ev1 A r (14, y, z) (a :: s) = (!a) :: s := by
  cases s with
  | nil => rfl
  | cons b s => rfl
theorem ev1_and {A : Rm} {r y z : Int} (a b : Bool) (s : List Bool) : ev1 A r (13, y, z) (a :: b :: s) = (b && a) :: s := rfl
theorem ev1_or {A : Rm} {r y z : Int} (a b : Bool) (s : List Bool) : ev1 A r (12, y, z) (a :: b :: s) = (b || a) :: s := rfl
theorem ev1_pl {A : Rm} {r : Int} {x : Sp} (h : 15 ≤ x.1) (s : List Bool) : ev1 A r x s = plF x A r :: s := by
  cases s with
  | nil => rfl
  | cons a s =>
    cases s with
    | nil => show (if x.1 = 14 then _ else _) = _; rw [if_neg (by omega)]
    | cons b s => show (if x.1 = 14 then _ else if x.1 = 13 then _ else if x.1 = 12 then _ else _) = _; rw [if_neg (by omega), if_neg (by omega), if_neg (by omega)]
/-- the steps L stand behind the steps K: they say f more -/
def Dn (R : Int) (K L : List Sp) (f : Sb) : Prop := ∀ (A : Rm) (r : Int) (s : List Bool), A.1 = R → isR A r → evS A r L s = f A r :: evS A r K s
/-! ===== reading a sentence: one function for both ===== -/
/-- fault, its place, where reading goes on; how many ones; what is said -/
abbrev Rs := Ts × Int × Sb
def fN : Sb := fun _ _ => false
abbrev at1 (t : Int → Int) (n most p : Int) : Prop := atS t n most p 40 ∨ (14 ≤ tkW t n most p ∧ tkW t n most p ≤ 23)
def stC (t : Int → Int) (n most : Int) (S : Ts) : Ts × Int := if S.1 = 0 then (if atC t n most S.2.2 then ((0, S.2.1, tkT t n most S.2.2), tkS t n most S.2.2) else ((1, tkP t n most S.2.2, S.2.2), 0)) else (S, 0)
def orF (wt : Bool) (fo fa : Sb) : Sb := fun A r => if wt then fo A r || fa A r else fa A r
/-- what stands behind the first of a condition -/
def cdF (t : Int → Int) (n most : Int) (sa : Int → Int → Rs) : Nat → Bool → Sb → Sb → Int → Int → Rs
  | 0, wt, fo, fa, p, c => ((0, 0, p), c, orF wt fo fa)
  | g + 1, wt, fo, fa, p, c =>
    if tkW t n most p = 13 then
      (if (sa (tkT t n most p) c).1.1 = 0 then cdF t n most sa g wt fo (fun A r => fa A r && (sa (tkT t n most p) c).2.2 A r) (sa (tkT t n most p) c).1.2.2 (sa (tkT t n most p) c).2.1 else sa (tkT t n most p) c)
    else if tkW t n most p = 12 then
      (if (sa (tkT t n most p) c).1.1 = 0 then cdF t n most sa g true (orF wt fo fa) (sa (tkT t n most p) c).2.2 (sa (tkT t n most p) c).1.2.2 (sa (tkT t n most p) c).2.1 else sa (tkT t n most p) c)
    else ((0, 0, p), c, orF wt fo fa)
def cdT (t : Int → Int) (n most : Int) (sa : Int → Int → Rs) (p c : Int) : Rs := if (sa p c).1.1 = 0 then cdF t n most sa 21 false fN (sa p c).2.2 (sa p c).1.2.2 (sa p c).2.1 else sa p c
def saP (t : Int → Int) (n most : Int) (A : Rm) (W p : Int) : Ts × Sp :=
  if W = 15 ∨ W = 16 then ((0, 0, p), (W, 0, 0))
  else if W = 17 ∨ W = 18 then ((stR t n most A (0, 0, p) (-1)).1, (W, 0, (stR t n most A (0, 0, p) (-1)).2))
  else ((stN t n most (stC t n most (0, 0, p)).1 0 999).1, (W, (stC t n most (0, 0, p)).2, (stN t n most (stC t n most (0, 0, p)).1 0 999).2))
def saF (t : Int → Int) (n most : Int) (A : Rm) : Nat → Int → Int → Rs
  | 0, p, c => (((if at1 t n most p then 4 else 1), tkP t n most p, p), c, fN)
  | g + 1, p, c =>
    if at1 t n most p then
      (if 20 ≤ c then ((4, tkP t n most p, p), c, fN)
      else if atS t n most p 40 then (stS t n most (cdT t n most (saF t n most A g) (tkT t n most p) (c + 1)).1 41, (cdT t n most (saF t n most A g) (tkT t n most p) (c + 1)).2.1, (cdT t n most (saF t n most A g) (tkT t n most p) (c + 1)).2.2)
      else if tkW t n most p = 14 then ((saF t n most A g (tkT t n most p) (c + 1)).1, (saF t n most A g (tkT t n most p) (c + 1)).2.1, fun B r => !(saF t n most A g (tkT t n most p) (c + 1)).2.2 B r)
      else ((saP t n most A (tkW t n most p) (tkT t n most p)).1, c + 1, plF (saP t n most A (tkW t n most p) (tkT t n most p)).2))
    else ((1, tkP t n most p, p), c, fN)
/-- the whole sentence -/
def seF (t : Int → Int) (n most : Int) (A : Rm) : Rs :=
  if (cdT t n most (saF t n most A 8) 0 0).1.1 = 0 ∧ tkK t n most (cdT t n most (saF t n most A 8) 0 0).1.2.2 ≠ 0 then
    ((1, tkP t n most (cdT t n most (saF t n most A 8) 0 0).1.2.2, (cdT t n most (saF t n most A 8) 0 0).1.2.2), (cdT t n most (saF t n most A 8) 0 0).2.1, fN)
  else cdT t n most (saF t n most A 8) 0 0
/-- reading one goes on, with more ones -/
def RsOk (n : Int) (p c : Int) (R : Rs) : Prop := R.1.1 = 0 → R.1.2.1 = 0 ∧ p < R.1.2.2 ∧ c < R.2.1 ∧ R.2.1 ≤ 20
section SNT
variable {t : Int → Int} {n most : Int} {A : Rm}
theorem cdF_ok {sa : Int → Int → Rs} (hs : ∀ p c, 0 ≤ p → 0 ≤ c → c ≤ 20 → RsOk n p c (sa p c)) : ∀ (g : Nat) (wt : Bool) (fo fa : Sb) (p c q k : Int), 0 ≤ q → q < p → 0 ≤ k → k < c → c ≤ 20 → RsOk n q k (cdF t n most sa g wt fo fa p c)
  | 0, wt, fo, fa, p, c, q, k, h0, hp, hk, hc, h20 => fun _ => ⟨rfl, hp, hc, h20⟩
  | g + 1, wt, fo, fa, p, c, q, k, h0, hp, hk, hc, h20 => by
    unfold cdF
    have ti := fun h => tk_in (t := t) (n := n) (most := most) (p := p) h
    have wr := tkW_rg t n most p
    by_cases c1 : tkW t n most p = 13
    · rw [if_pos c1]
      have t2 := ti (by have := wr.2 (by omega); omega)
      have s := hs (tkT t n most p) c (by omega) (by omega) h20
      by_cases z : (sa (tkT t n most p) c).1.1 = 0
      · rw [if_pos z]
        have s' := s z
        exact cdF_ok hs g _ _ _ _ _ _ _ h0 (by omega) hk (by omega) (by omega)
      · rw [if_neg z]
        exact fun y => absurd y z
    · rw [if_neg c1]
      by_cases c2 : tkW t n most p = 12
      · rw [if_pos c2]
        have t2 := ti (by have := wr.2 (by omega); omega)
        have s := hs (tkT t n most p) c (by omega) (by omega) h20
        by_cases z : (sa (tkT t n most p) c).1.1 = 0
        · rw [if_pos z]
          have s' := s z
          exact cdF_ok hs g _ _ _ _ _ _ _ h0 (by omega) hk (by omega) (by omega)
        · rw [if_neg z]
          exact fun y => absurd y z
      · rw [if_neg c2]
        exact fun _ => ⟨rfl, hp, hc, h20⟩
theorem cdT_ok {sa : Int → Int → Rs} (hs : ∀ p c, 0 ≤ p → 0 ≤ c → c ≤ 20 → RsOk n p c (sa p c)) {p c : Int} (h0 : 0 ≤ p) (hc : 0 ≤ c) (h20 : c ≤ 20) : RsOk n p c (cdT t n most sa p c) := by
  unfold cdT
  by_cases z : (sa p c).1.1 = 0
  · rw [if_pos z]
    have s := hs p c h0 hc h20 z
    exact cdF_ok hs 21 _ _ _ _ _ _ _ h0 s.2.1 hc s.2.2.1 s.2.2.2
  · rw [if_neg z]
    exact fun y => absurd y z
theorem stN_p {S : Ts} {a b p : Int} (hp : p < S.2.2) (h0 : S.1 = 0 → S.2.1 = 0) : (stN t n most S a b).1.1 = 0 → (stN t n most S a b).1.2.1 = 0 ∧ p < (stN t n most S a b).1.2.2 := by
  intro z
  refine ⟨stN_z h0 z, ?_⟩
  unfold stN at z ⊢
  by_cases c : S.1 = 0
  · rw [if_pos c] at z ⊢
    by_cases y : atN t n most S.2.2 a b
    · rw [if_pos y]
      have ti := tk_in (t := t) (n := n) (most := most) (p := S.2.2) (by have := y.1; omega)
      show p < tkT t n most S.2.2
      omega
    · rw [if_neg y]; exact hp
  · rw [if_neg c]; exact hp
theorem stR_p {S : Ts} {a p : Int} (hp : p < S.2.2) (h0 : S.1 = 0 → S.2.1 = 0) : (stR t n most A S a).1.1 = 0 → (stR t n most A S a).1.2.1 = 0 ∧ p < (stR t n most A S a).1.2.2 := by
  intro z
  refine ⟨stR_z h0 z, ?_⟩
  unfold stR at z ⊢
  by_cases c : S.1 = 0
  · rw [if_pos c] at z ⊢
    by_cases y : isNm t n most S.2.2 ∧ rowN A t n most S.2.2 ≠ -1 ∧ rowN A t n most S.2.2 ≠ a
    · rw [if_pos y]
      have ti := tk_in (t := t) (n := n) (most := most) (p := S.2.2) (by have := y.1.1; omega)
      show p < tkT t n most S.2.2
      omega
    · rw [if_neg y]; exact hp
  · rw [if_neg c]; exact hp
theorem stS_p {S : Ts} {c p : Int} (hp : S.1 = 0 → p < S.2.2) (h0 : S.1 = 0 → S.2.1 = 0) : (stS t n most S c).1 = 0 → S.1 = 0 ∧ (stS t n most S c).2.1 = 0 ∧ p < (stS t n most S c).2.2 := by
  intro z
  have s0 := stS_y z
  refine ⟨s0, stS_z h0 z, ?_⟩
  unfold stS
  rw [if_pos s0]
  by_cases y : atS t n most S.2.2 c
  · rw [if_pos y]
    have ti := tk_in (t := t) (n := n) (most := most) (p := S.2.2) (by have := y.1; omega)
    have := hp s0
    show p < tkT t n most S.2.2
    omega
  · rw [if_neg y]; exact hp s0
theorem stC_p {S : Ts} {p : Int} (hp : p < S.2.2) (h0 : S.1 = 0 → S.2.1 = 0) : ((stC t n most S).1.1 = 0 → (stC t n most S).1.2.1 = 0) ∧ p < (stC t n most S).1.2.2 := by
  unfold stC
  by_cases c : S.1 = 0
  · rw [if_pos c]
    by_cases y : atC t n most S.2.2
    · rw [if_pos y]
      have ti := tk_in (t := t) (n := n) (most := most) (p := S.2.2) (by have := y.1; omega)
      refine ⟨fun _ => h0 c, ?_⟩
      show p < tkT t n most S.2.2
      omega
    · rw [if_neg y]
      exact ⟨fun z => absurd (show (1 : Int) = 0 from z) (by omega), hp⟩
  · rw [if_neg c]
    exact ⟨h0, hp⟩
theorem saP_p {W p q : Int} (hp : q < p) : (saP t n most A W p).1.1 = 0 → (saP t n most A W p).1.2.1 = 0 ∧ q < (saP t n most A W p).1.2.2 := by
  unfold saP
  split
  · exact fun _ => ⟨rfl, hp⟩
  · split
    · exact stR_p hp (fun _ => rfl)
    · have s := stC_p (t := t) (n := n) (most := most) (S := (0, 0, p)) hp (fun _ => rfl)
      exact stN_p s.2 s.1
theorem at1_k {p : Int} (h : at1 t n most p) : 2 ≤ tkK t n most p := by
  rcases h with h | h
  · have := h.1; omega
  · have := (tkW_rg t n most p).2 (by omega); omega
theorem saF_ok : ∀ (g : Nat) (p c : Int), 0 ≤ p → 0 ≤ c → c ≤ 20 → RsOk n p c (saF t n most A g p c)
  | 0, p, c, h0, hc, h20 => fun z => by
    change (if at1 t n most p then (4 : Int) else 1) = 0 at z
    split at z <;> omega
  | g + 1, p, c, h0, hc, h20 => by
    unfold saF
    by_cases a : at1 t n most p
    · rw [if_pos a]
      have ti := tk_in (t := t) (n := n) (most := most) (p := p) (by have := at1_k a; omega)
      by_cases y : 20 ≤ c
      · rw [if_pos y]
        exact fun z => absurd (show (4 : Int) = 0 from z) (by omega)
      · rw [if_neg y]
        by_cases b : atS t n most p 40
        · rw [if_pos b]
          have s := cdT_ok (t := t) (most := most) (fun p c h0 hc h20 => saF_ok g p c h0 hc h20) (p := tkT t n most p) (c := c + 1) (by omega) (by omega) (by omega)
          intro z
          have u := stS_p (p := p) (fun e => by have := s e; omega) (fun e => (s e).1) z
          have v := s u.1
          exact ⟨u.2.1, u.2.2, Int.lt_trans (show c < c + 1 by omega) v.2.2.1, v.2.2.2⟩
        · rw [if_neg b]
          by_cases e : tkW t n most p = 14
          · rw [if_pos e]
            have s := saF_ok g (tkT t n most p) (c + 1) (by omega) (by omega) (by omega)
            intro z
            have v := s z
            exact ⟨v.1, Int.lt_trans (show p < tkT t n most p by omega) v.2.1, Int.lt_trans (show c < c + 1 by omega) v.2.2.1, v.2.2.2⟩
          · rw [if_neg e]
            intro z
            have u := saP_p (t := t) (n := n) (most := most) (A := A) (W := tkW t n most p) (p := tkT t n most p) (q := p) (by omega) z
            exact ⟨u.1, u.2, by show c < c + 1; omega, by show c + 1 ≤ 20; omega⟩
    · rw [if_neg a]
      exact fun z => absurd (show (1 : Int) = 0 from z) (by omega)
end SNT
