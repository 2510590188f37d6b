/-! ===== the sizes of leaves, and what holds of them ===== -/
theorem psm_congr {l m : Int → Int} : ∀ (f : Nat) (p : Int), (∀ x, p ≤ x → x < p + f → l x = m x) → psm l p f = psm m p f
  | 0, p, h => rfl
  | f + 1, p, h => by
    have := psm_congr f (p + 1) (fun x h1 h2 => h x (by omega) (by omega))
    have := h p (by omega) (by omega)
    simp only [psm]
    omega
theorem psm_shift {l m : Int → Int} {s : Int} : ∀ (f : Nat) (p : Int), (∀ x, p ≤ x → x < p + f → m (x + s) = l x) → psm m (p + s) f = psm l p f
  | 0, p, h => rfl
  | f + 1, p, h => by
    have e := psm_shift f (p + 1) (fun x h1 h2 => h x (by omega) (by omega))
    have := h p (by omega) (by omega)
    simp only [psm]
    rw [show p + s + 1 = p + 1 + s by omega]
    omega
theorem psm_add (l : Int → Int) : ∀ (f g : Nat) (p : Int), psm l p (f + g) = psm l p f + psm l (p + f) g
  | 0, g, p => by simp [psm]
  | f + 1, g, p => by
    have e := psm_add l f g (p + 1)
    rw [show f + 1 + g = (f + g) + 1 by omega]
    simp only [psm]
    rw [e, show p + ((f + 1 : Nat) : Int) = p + 1 + f by omega]
    omega
theorem psm_ge {l : Int → Int} {c : Int} : ∀ (f : Nat) (p : Int), (∀ x, p ≤ x → x < p + f → c ≤ l x) → c * f ≤ psm l p f
  | 0, p, h => by simp [psm]
  | f + 1, p, h => by
    have e := psm_ge f (p + 1) (fun x h1 h2 => h x (by omega) (by omega))
    have := h p (by omega) (by omega)
    simp only [psm]
    have : c * ((f + 1 : Nat) : Int) = c * f + c := by rw [Int.natCast_succ, Int.mul_add, Int.mul_one]
    omega
/-- cut at leaf j -/
theorem psm_cut (l : Int → Int) {j k : Int} (hj : 0 ≤ j) (hk : j < k) : psm l 0 k.toNat = psm l 0 j.toNat + l j + psm l (j + 1) (k - j - 1).toNat := by
  have e := psm_add l j.toNat (k - j).toNat 0
  rw [show j.toNat + (k - j).toNat = k.toNat by omega, show (0 : Int) + (j.toNat : Int) = j by omega, show (k - j).toNat = (k - j - 1).toNat + 1 by omega] at e
  simp only [psm] at e
  omega
theorem psm_upd (l : Int → Int) {j k v : Int} (hj : 0 ≤ j) (hk : j < k) : psm (updI l j v) 0 k.toNat = psm l 0 k.toNat + v - l j := by
  rw [psm_cut l hj hk, psm_cut (updI l j v) hj hk]
  have e1 : psm (updI l j v) 0 j.toNat = psm l 0 j.toNat := psm_congr _ _ (fun x h1 h2 => by unfold updI; rw [if_neg (by omega)])
  have e2 : psm (updI l j v) (j + 1) (k - j - 1).toNat = psm l (j + 1) (k - j - 1).toNat := psm_congr _ _ (fun x h1 h2 => by unfold updI; rw [if_neg (by omega)])
  have e3 : updI l j v j = v := by unfold updI; simp
  omega
theorem psm_hal (l : Int → Int) {j k low : Int} (hj : 0 ≤ j) (hk : j < k) : psm (halL l k j low) 0 (halK l k j low).toNat = psm l 0 k.toNat := by
  unfold halL halK
  by_cases c : 2 * low < l j ∧ k < 152
  · rw [if_pos c, if_pos c]
    rw [psm_cut l hj hk, psm_cut _ hj (show j < k + 1 by omega), show (k + 1 - j - 1).toNat = (k - j - 1).toNat + 1 by omega]
    simp only [psm]
    have e1 := psm_congr (l := fun x => if x < j then l x else if x = j then l j - Int.tdiv (l j) 2 else if x = j + 1 then Int.tdiv (l j) 2 else l (x - 1)) (m := l) j.toNat 0 (fun x h1 h2 => by rw [if_pos (by omega)])
    have e2 := psm_shift (m := fun x => if x < j then l x else if x = j then l j - Int.tdiv (l j) 2 else if x = j + 1 then Int.tdiv (l j) 2 else l (x - 1)) (l := l) (s := 1) (k - j - 1).toNat (j + 1) (fun x h1 h2 => by rw [if_neg (by omega), if_neg (by omega), if_neg (by omega)]; congr 1; omega)
    rw [e1, e2]
    simp only [Int.lt_irrefl, if_false, if_true]
    rw [if_neg (show ¬ j + 1 < j by omega), if_neg (show ¬ j + 1 = j by omega)]
    omega
  · rw [if_neg c, if_neg c]
theorem psm_mer (l : Int → Int) {j k : Int} (hj : 0 ≤ j) (hk : j + 1 < k) : psm (merL l j) 0 (k - 1).toNat = psm l 0 k.toNat := by
  rw [psm_cut l hj (show j < k by omega), psm_cut _ hj (show j < k - 1 by omega), show (k - j - 1).toNat = (k - 1 - j - 1).toNat + 1 by omega]
  simp only [psm]
  have e1 := psm_congr (l := merL l j) (m := l) j.toNat 0 (fun x h1 h2 => by unfold merL; rw [if_pos (by omega)])
  have e2 := psm_shift (m := l) (l := merL l j) (s := 1) (k - 1 - j - 1).toNat (j + 1) (fun x h1 h2 => by unfold merL; rw [if_neg (by omega), if_neg (by omega)])
  have e3 : merL l j j = l j + l (j + 1) := by unfold merL; simp
  rw [e1, e2, e3]
  omega
/-- what holds of a row's leaves: n bits in k leaves of the sizes l, the low bound low -/
def LvOk (n k : Int) (l : Int → Int) (low : Int) : Prop := (4 ≤ low ∧ low ≤ 32) ∧ (0 ≤ n ∧ n ≤ 600) ∧ 0 ≤ k ∧ psm l 0 k.toNat = n ∧ ∀ j, 0 ≤ j → j < k → (1 ≤ l j ∧ l j ≤ 2 * low) ∧ (1 < k → low ≤ l j)
theorem LvOk.k {n k low : Int} {l : Int → Int} (h : LvOk n k l low) : k ≤ 150 := by
  obtain ⟨h1, h2, h3, h4, h5⟩ := h
  by_cases c : k ≤ 1
  · omega
  · have := psm_ge (l := l) (c := 4) k.toNat 0 (fun x y z => by have := h5 x y (by omega); omega)
    omega
theorem LvOk.at {n k low : Int} {l : Int → Int} (h : LvOk n k l low) {w : sW} {a : Int} {b : Int → Int} (g : RowA w a n b k l) : RowAt w a n b k l := g.At h.2.1 ⟨h.2.2.1, h.k⟩
theorem hal_bd {k j low : Int} {l : Int → Int} (hw : 4 ≤ low ∧ low ≤ 32) (hk : 1 ≤ k ∧ k ≤ 150) (hj : 0 ≤ j ∧ j < k) (ho : ∀ x, 0 ≤ x → x < k → x ≠ j → (1 ≤ l x ∧ l x ≤ 2 * low) ∧ (1 < k → low ≤ l x)) (hl : 1 ≤ l j ∧ l j ≤ 3 * low ∧ (1 < k → low ≤ l j)) (x : Int) (hx : 0 ≤ x) (hx' : x < halK l k j low) : (1 ≤ halL l k j low x ∧ halL l k j low x ≤ 2 * low) ∧ (1 < halK l k j low → low ≤ halL l k j low x) := by
  unfold halK at hx' ⊢
  unfold halL
  by_cases c : 2 * low < l j ∧ k < 152
  · rw [if_pos c] at hx' ⊢
    rw [if_pos c]
    have q : Int.tdiv (l j) 2 = l j / 2 := Int.tdiv_eq_ediv_of_nonneg (by omega)
    by_cases c1 : x < j
    · have := ho x hx (by omega) (by omega)
      rw [if_pos c1]
      omega
    · by_cases c2 : x = j
      · rw [if_neg c1, if_pos c2, q]
        omega
      · by_cases c3 : x = j + 1
        · rw [if_neg c1, if_neg c2, if_pos c3, q]
          omega
        · have := ho (x - 1) (by omega) (by omega) (by omega)
          rw [if_neg c1, if_neg c2, if_neg c3]
          omega
  · rw [if_neg c] at hx' ⊢
    rw [if_neg c]
    by_cases c2 : x = j
    · subst c2
      omega
    · exact ho x hx hx' c2
theorem LvOk.ins {n k low : Int} {l : Int → Int} (h : LvOk n k l low) (hn : n < 600) (i : Int) : LvOk (n + 1) (insK l n k i low) (insL l n k i low) low := by
  have hk := h.k
  obtain ⟨h1, h2, h3, h4, h5⟩ := h
  have hk0 : 1 ≤ insK0 k ∧ insK0 k ≤ 150 ∧ (k ≠ 0 → insK0 k = k) := by unfold insK0; grind
  have hj := leafW_rg (l := insL0 l k) (n := n) (k := insK0 k) hk0.1 (if i = 0 then 0 else i - 1)
  have hs : psm (insL0 l k) 0 (insK0 k).toNat = n := by
    by_cases c : k = 0
    · subst c
      simp [insL0, insK0, psm, updI] at *
      omega
    · unfold insL0 insK0
      rw [if_neg c, if_neg c]
      exact h4
  have hb : ∀ j, 0 ≤ j → j < insK0 k → (0 ≤ insL0 l k j ∧ insL0 l k j ≤ 2 * low) ∧ (1 < insK0 k → low ≤ insL0 l k j) := fun j a1 a2 => by
    by_cases c : k = 0
    · subst c
      have : j = 0 := by simp [insK0] at a2; omega
      subst this
      simp [insL0, insK0, updI]
      omega
    · have a3 := h5 j a1 (by have := hk0.2.2 c; omega)
      unfold insL0
      rw [if_neg c, hk0.2.2 c]
      omega
  have hsu := psm_upd (insL0 l k) (j := insJ l n k i) (k := insK0 k) (v := insL0 l k (insJ l n k i) + 1) hj.1 hj.2
  have hsh := psm_hal (insL1 l n k i) (j := insJ l n k i) (k := insK0 k) (low := low) hj.1 hj.2
  have hbj := hb _ hj.1 hj.2
  refine ⟨h1, by omega, ?_, ?_, ?_⟩
  · unfold insK halK
    grind
  · show psm (halL _ _ _ _) 0 (halK _ _ _ _).toNat = _
    rw [hsh]
    show psm (updI _ _ _) 0 _ = _
    rw [hsu]
    omega
  · refine hal_bd h1 ⟨hk0.1, hk0.2.1⟩ hj (fun x x1 x2 x3 => ?_) ?_
    · have := hb x x1 x2
      have c : k ≠ 0 := fun c => by
        subst c
        have : insK0 0 = 1 := rfl
        have : insJ l n 0 i = leafW (insL0 l 0) n (insK0 0) (if i = 0 then 0 else i - 1) := rfl
        omega
      have e : insL1 l n k i x = l x := by
        unfold insL1 updI insL0
        rw [if_neg x3, if_neg c]
      rw [e, hk0.2.2 c]
      exact h5 x x1 (by have := hk0.2.2 c; omega)
    · have e : insL1 l n k i (insJ l n k i) = insL0 l k (insJ l n k i) + 1 := by unfold insL1 updI; simp
      rw [e]
      change (0 ≤ insL0 l k (insJ l n k i) ∧ insL0 l k (insJ l n k i) ≤ 2 * low) ∧ (1 < insK0 k → low ≤ insL0 l k (insJ l n k i)) at hbj
      omega
