/-! ===== the small machine and the machine: values, worlds, frames ===== -/
/-- the types of an object's fields, by its kind less 1 -/
def FTL : List (List Nat) := [[2, 2, 2, 2, 0, 0], [0], [2, 0, 0], [2, 0, 0, 0, 0, 0, 0, 0, 1, 2, 0, 0], [2, 2, 0, 0], [2, 0], [2, 2, 2, 2, 0, 0], [2, 2, 2, 0, 0, 3], [2, 0, 2, 2, 2, 2, 2, 2, 2, 2, 2, 2, 0, 0, 2], [0, 2, 0, 0, 0, 0, 0, 0, 0, 0, 0, 0, 1, 0, 2, 2, 2, 2, 2, 2, 2, 2, 2, 2, 0, 3, 0, 2, 0, 0, 2, 2, 0, 3, 2, 0, 0, 0, 0]]
def nF (ci : Int) : Nat := (FTL.getD (ci - 1).toNat []).length
def fT (ci : Int) (k : Nat) : Nat := (FTL.getD (ci - 1).toNat []).getD k 9
def elT (ki : Int) : Nat := if ki = 22 then 1 else if 24 ≤ ki ∧ ki ≤ 27 then 2 else 0
def mvV (adr : Int → Nat) : sV → Value
  | .inl x => .int (Int32.ofInt x)
  | .inr (.inl x) => .long (Int64.ofInt x)
  | .inr (.inr r) => if r = 0 then .null else .ref (adr r)
def in32 (x : Int) : Prop := -2147483648 ≤ x ∧ x < 2147483648
def in64 (x : Int) : Prop := -9223372036854775808 ≤ x ∧ x < 9223372036854775808
def okV (w : sW) : sV → Prop
  | .inl x => in32 x
  | .inr (.inl x) => in64 x
  | .inr (.inr r) => r = 0 ∨ kd w r ≠ 0
def okS (w : sW) (st : List sV) : Prop := ∀ v ∈ st, okV w v
def okL (w : sW) (ls : sL) : Prop := ∀ v, some v ∈ ls → okV w v
def lvs (adr : Int → Nat) : sL → Nat → List (Nat × Value)
  | [], _ => []
  | none :: r, i => lvs adr r (i + 1)
  | some v :: r, i => (i, mvV adr v) :: lvs adr r (i + 1)
/-- the enum's constants: code, sort, base -/
def wWd : List (Int × Int × Int) := [(398374, 0, 0), (18935, 0, 0), (13074306643, 0, 0), (17076, 1, 0), (19636, 1, 10), (3764, 1, 20), (677454, 1, 30), (343342, 1, 40), (20459828, 1, 50), (681477, 1, 60), (5834341, 1, 70), (498, 0, 0), (1476, 0, 0), (14836, 2, 0), (5685913, 2, 0), (186542, 2, 0), (402789, 2, 0), (72590803, 2, 0), (632645, 2, 0), (506035, 2, 0), (611795, 2, 0), (407951539, 2, 0), (492210354, 2, 0)]
def rO (adr : Int → Nat) (g : Int) : Option Nat := if g = 0 then none else some (adr g)
def fldO (adr : Int → Nat) (w : sW) (r : Int) : List Value := (List.range (nF (kd w r))).map (fun k : Nat => mvV adr (mkV (fT (kd w r) k) (gv w r k)))
def cellOf (cA : Nat → ClassId) (adr : Int → Nat) (w : sW) (r : Int) : va_E :=
  if kd w r = 22 then .inl (cA 2, (ln w r).toNat, .inr (.inl (fun j : Nat => Int64.ofInt (gv w r j))))
  else if 24 ≤ kd w r ∧ kd w r ≤ 27 then .inl (cA ((kd w r).toNat - 20), (ln w r).toNat, .inr (.inr (.inr (.inr (fun j : Nat => rO adr (gv w r j))))))
  else if 20 ≤ kd w r then .inl (cA ((kd w r).toNat - 20), (ln w r).toNat, .inl (fun j : Nat => Int32.ofInt (gv w r j)))
  else .inr ((kd w r).toNat - 1, fldO adr w r)
def wsO (cA : Nat → ClassId) (adr : Int → Nat) (w : sW) : va_W := (List.range (nx w - 32).toNat).map (fun j : Nat => (adr (32 + (j : Int)), cellOf cA adr w (32 + (j : Int))))
def tysO (cA : Nat → ClassId) : List (ClassId × FieldType) := [(cA 0, .int), (cA 1, .byte), (cA 2, .long), (cA 3, .boolean), (cA 4, .object "BitRopes$Row"), (cA 5, .object "BitRopes$State"), (cA 6, .object "BitRopes$Sentence"), (cA 7, .object "BitRopes$Word")]
def okC (w : sW) (r : Int) : Prop :=
  ((1 ≤ kd w r ∧ kd w r ≤ 10) ∧ ∀ k : Nat, okV w (mkV (fT (kd w r) k) (gv w r k))) ∨
  ((20 ≤ kd w r ∧ kd w r ≤ 27) ∧ (0 ≤ ln w r ∧ ln w r ≤ 100000) ∧ (∀ j : Int, okV w (mkV (elT (kd w r)) (gv w r j))) ∧ (kd w r = 21 → ∀ j : Int, -128 ≤ gv w r j ∧ gv w r j < 128))
def WFw (L : Nat) (xs : Nat → Int32) (w : sW) : Prop :=
  32 ≤ nx w ∧ (∀ k : Nat, k < 23 → w.1 ((k : Int) + 1) = (30, 0) ∧ gv w ((k : Int) + 1) 0 = (wWd.getD k (0, 0, 0)).1 ∧ gv w ((k : Int) + 1) 1 = (wWd.getD k (0, 0, 0)).2.1 ∧ gv w ((k : Int) + 1) 2 = (wWd.getD k (0, 0, 0)).2.2) ∧
  (w.1 24 = (27, 23) ∧ ∀ j : Nat, j < 23 → gv w 24 j = (j : Int) + 1) ∧
  (w.1 25 = (20, (L : Int)) ∧ ∀ j : Nat, j < L → gv w 25 j = (xs j).toInt) ∧
  (∀ r : Int, (r ≤ 0 ∨ (26 ≤ r ∧ r < 32) ∨ nx w ≤ r) → kd w r = 0) ∧ ∀ r : Int, 32 ≤ r → r < nx w → okC w r
def Ext (w w' : sW) : Prop := (∀ r, r < nx w → w'.1 r = w.1 r) ∧ nx w ≤ nx w' ∧ uc w ≤ uc w' ∧ us w ≤ us w'
theorem Ext.rf {w : sW} : Ext w w := ⟨fun _ _ => rfl, Int.le_refl _, Nat.le_refl _, Nat.le_refl _⟩
theorem Ext.tr {a b c : sW} (h : Ext a b) (h' : Ext b c) : Ext a c := ⟨fun r hr => (h'.1 r (Int.lt_of_lt_of_le hr h.2.1)).trans (h.1 r hr), Int.le_trans h.2.1 h'.2.1, Nat.le_trans h.2.2.1 h'.2.2.1, Nat.le_trans h.2.2.2 h'.2.2.2⟩
theorem Ext.sv {w : sW} {r k v : Int} : Ext w (sv w r k v) := ⟨fun _ _ => rfl, Int.le_refl _, Nat.le_refl _, Nat.le_refl _⟩
theorem Ext.cp {w : sW} {a b c d e : Int} : Ext w (cp w a b c d e) := ⟨fun _ _ => rfl, Int.le_refl _, Nat.le_refl _, Nat.le_refl _⟩
theorem Ext.bp {w : sW} {a b : Nat} : Ext w (bp w a b) := ⟨fun _ _ => rfl, Int.le_refl _, Nat.le_add_right _ _, Nat.le_add_right _ _⟩
theorem Ext.al {w : sW} {a b : Int} {n : Nat} : Ext w (al w a b n) := by
  refine ⟨fun r hr => ?_, ?_, Nat.le_add_right _ _, Nat.le_add_right _ _⟩
  · show (if r = nx w then (a, b) else w.1 r) = w.1 r
    rw [if_neg (by omega)]
  · show nx w ≤ nx w + 1
    omega
theorem kd_sv (w : sW) (r k v a : Int) : kd (sv w r k v) a = kd w a := rfl
theorem ln_sv (w : sW) (r k v a : Int) : ln (sv w r k v) a = ln w a := rfl
theorem nx_sv (w : sW) (r k v : Int) : nx (sv w r k v) = nx w := rfl
theorem gv_sv (w : sW) (r k v a j : Int) : gv (sv w r k v) a j = if a = r ∧ j = k then v else gv w a j := rfl
theorem kd_cp (w : sW) (s sp d dp n a : Int) : kd (cp w s sp d dp n) a = kd w a := rfl
theorem ln_cp (w : sW) (s sp d dp n a : Int) : ln (cp w s sp d dp n) a = ln w a := rfl
theorem nx_cp (w : sW) (s sp d dp n : Int) : nx (cp w s sp d dp n) = nx w := rfl
theorem gv_cp (w : sW) (s sp d dp n a j : Int) : gv (cp w s sp d dp n) a j = if a = d ∧ dp ≤ j ∧ j < dp + n then gv w s (sp + (j - dp)) else gv w a j := rfl
theorem nx_al (w : sW) (a b : Int) (n : Nat) : nx (al w a b n) = nx w + 1 := rfl
theorem kd_al (w : sW) (a b : Int) (n : Nat) (r : Int) : kd (al w a b n) r = if r = nx w then a else kd w r := by
  show (if r = nx w then (a, b) else w.1 r).1 = _
  split <;> rfl
theorem ln_al (w : sW) (a b : Int) (n : Nat) (r : Int) : ln (al w a b n) r = if r = nx w then b else ln w r := by
  show (if r = nx w then (a, b) else w.1 r).2 = _
  split <;> rfl
theorem gv_al (w : sW) (a b : Int) (n : Nat) (r j : Int) : gv (al w a b n) r j = if r = nx w then 0 else gv w r j := rfl
theorem wsO_get {cA : Nat → ClassId} {adr : Int → Nat} {w : sW} {r : Int} (h1 : 32 ≤ r) (h2 : r < nx w) : (wsO cA adr w)[(r - 32).toNat]? = some (adr r, cellOf cA adr w r) := by
  unfold wsO
  rw [List.getElem?_map, List.getElem?_range (by omega)]
  have : 32 + (((r - 32).toNat : Nat) : Int) = r := by omega
  show some (adr _, cellOf cA adr w _) = _
  rw [this]
theorem wsO_set {cA : Nat → ClassId} {adr : Int → Nat} {w w' : sW} {r : Int} (h1 : 32 ≤ r) (h2 : r < nx w) (hn : nx w' = nx w) (ho : ∀ a, a ≠ r → cellOf cA adr w' a = cellOf cA adr w a) : wsO cA adr w' = (wsO cA adr w).set (r - 32).toNat (adr r, cellOf cA adr w' r) := by
  unfold wsO
  rw [hn]
  apply List.ext_getElem?
  intro i
  rw [List.getElem?_set]
  by_cases hi : i < (nx w - 32).toNat
  · by_cases e : (r - 32).toNat = i
    · subst e
      have : 32 + (((r - 32).toNat : Nat) : Int) = r := by omega
      rw [List.getElem?_map, List.getElem?_range hi, if_pos rfl, if_pos (by simpa using hi)]
      show some (adr _, cellOf cA adr w' _) = _
      rw [this]
    · rw [if_neg e]
      have hne : 32 + (i : Int) ≠ r := by omega
      simp [hi, ho _ hne]
  · rw [List.getElem?_eq_none (by simp; omega)]
    have : ¬ (r - 32).toNat = i := by omega
    rw [if_neg this, List.getElem?_eq_none (by simp; omega)]
theorem cellOf_sv {cA : Nat → ClassId} {adr : Int → Nat} {w : sW} {r k v : Int} : ∀ a, a ≠ r → cellOf cA adr (sv w r k v) a = cellOf cA adr w a := by
  intro a h
  simp only [cellOf, fldO, kd_sv, ln_sv, gv_sv, h, false_and, if_false]
theorem cellOf_cp {cA : Nat → ClassId} {adr : Int → Nat} {w : sW} {s sp d dp n : Int} : ∀ a, a ≠ d → cellOf cA adr (cp w s sp d dp n) a = cellOf cA adr w a := by
  intro a h
  simp only [cellOf, fldO, kd_cp, ln_cp, gv_cp, h, false_and, if_false]
theorem okV.ext {w w' : sW} {v : sV} (hx : Ext w w') (hz : ∀ r, kd w r ≠ 0 → r < nx w) (h : okV w v) : okV w' v := by
  rcases v with x | x | r
  · exact h
  · exact h
  · rcases h with h | h
    · exact Or.inl h
    · right
      show (w'.1 r).1 ≠ 0
      rw [hx.1 r (hz r h)]
      exact h
theorem WFw.lt {L : Nat} {xs : Nat → Int32} {w : sW} (h : WFw L xs w) : ∀ r, kd w r ≠ 0 → r < nx w := by
  intro r hr
  rcases Int.lt_or_le r (nx w) with q | q
  · exact q
  · exact absurd (h.2.2.2.2.1 r (Or.inr (Or.inr q))) hr
theorem WFw.pos {L : Nat} {xs : Nat → Int32} {w : sW} (h : WFw L xs w) : ∀ r, kd w r ≠ 0 → 0 < r ∧ (r ≤ 25 ∨ 32 ≤ r) := by
  intro r hr
  refine ⟨?_, ?_⟩
  · rcases Int.lt_or_le 0 r with q | q
    · exact q
    · exact absurd (h.2.2.2.2.1 r (Or.inl q)) hr
  · rcases Int.lt_or_le r 26 with q | q
    · exact Or.inl (by omega)
    · rcases Int.lt_or_le r 32 with q2 | q2
      · exact absurd (h.2.2.2.2.1 r (Or.inr (Or.inl ⟨q, q2⟩))) hr
      · exact Or.inr q2
