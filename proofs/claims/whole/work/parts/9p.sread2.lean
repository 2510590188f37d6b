/-! ===== a sentence read by the class: a condition ===== -/
/-- the class reads one as sa tells -/
def OneC (d : Nat) (t : Int → Int) (n most : Int) (A : Rm) (q a D : Int) (sa : Int → Int → Rs) : Prop := ∀ (w : sW) (p c : Int) (L : List Sp), RS w t n most (0, 0, p) → StI w q A → SeR w a c L → (L.length : Int) ≤ 2 * c → ∃ w' L' c', Ex pro d 69 w [rV a, rV 34, rV q, iV D] = some (none, w') ∧ RS w' t n most (sa p c).1 ∧ SeR w' a c' L' ∧ Mf w w' (seP a) ∧ ((sa p c).1.1 = 0 → c' = (sa p c).2.1 ∧ (L'.length : Int) ≤ L.length + 2 * (c' - c) - 1 ∧ Dn A.1 L L' (sa p c).2.2)
def CndC (d : Nat) (t : Int → Int) (n most : Int) (A : Rm) (q a D : Int) (sa : Int → Int → Rs) : Prop := ∀ (w : sW) (p c : Int) (L : List Sp), RS w t n most (0, 0, p) → StI w q A → SeR w a c L → (L.length : Int) ≤ 2 * c → ∃ w' L' c', Ex pro d 68 w [rV a, rV 34, rV q, iV D] = some (none, w') ∧ RS w' t n most (cdT t n most sa p c).1 ∧ SeR w' a c' L' ∧ Mf w w' (seP a) ∧ ((cdT t n most sa p c).1.1 = 0 → c' = (cdT t n most sa p c).2.1 ∧ (L'.length : Int) ≤ L.length + 2 * (c' - c) - 1 ∧ Dn A.1 L L' (cdT t n most sa p c).2.2)
abbrev bI1 (b : Bool) : Int := if b then 1 else 0
abbrev bL1 (b : Bool) (f : Sb) (A : Rm) (r : Int) : List Bool := if b then [f A r] else []
/-- the steps of a condition so far -/
def Dw (R : Int) (K L : List Sp) (wt : Bool) (fo fa : Sb) : Prop := ∀ (A : Rm) (r : Int) (s : List Bool), A.1 = R → isR A r → evS A r L s = fa A r :: (bL1 wt fo A r ++ evS A r K s)
theorem Dw.or {R : Int} {K L : List Sp} {fo fa : Sb} (h : Dw R K L true fo fa) {y z : Int} : Dn R K (L ++ [(12, y, z)]) (orF true fo fa) := fun A r s e hr => by
  rw [evS_app, h A r s e hr]
  show ev1 A r (12, y, z) (fa A r :: fo A r :: evS A r K s) = _
  rw [ev1_or]
  rfl
theorem Dw.no {R : Int} {K L : List Sp} {fo fa : Sb} (h : Dw R K L false fo fa) : Dn R K L (orF false fo fa) := fun A r s e hr => h A r s e hr
theorem Dn.wt {R : Int} {K L L' : List Sp} {f g : Sb} (h : Dn R K L f) (k : Dn R L L' g) : Dw R K L' true f g := fun A r s e hr => by
  rw [k A r s e hr, h A r s e hr]
  rfl
theorem Dw.and {R : Int} {K L L' : List Sp} {fo fa g : Sb} {wt : Bool} (h : Dw R K L wt fo fa) (k : Dn R L L' g) {y z : Int} : Dw R K (L' ++ [(13, y, z)]) wt fo (fun A r => fa A r && g A r) := fun A r s e hr => by
  rw [evS_app, k A r s e hr, h A r s e hr]
  show ev1 A r (13, y, z) (g A r :: fa A r :: (bL1 wt fo A r ++ evS A r K s)) = _
  rw [ev1_and]
section SR2
variable {d : Nat} {t : Int → Int} {n most q a D : Int} {A : Rm} {sa : Int → Int → Rs}
/-- the end of a condition: an or that waits -/
theorem l_cdEnd {w : sW} {c k : Int} {L : List Sp} {wt : Bool} {S : Ts} (h : RS w t n most S) (hE : SeR w a c L) (ha : 70 ≤ a) : ∃ w' L', ((∀ X, X = (if bI1 wt = 0 then (some (.inr (none, w)) : Option sO) else if kd w a = 7 then bN (Ex pro (d + 3) 71 w [rV a, rV 12, iV 0, iV 0]) (fun w5 => some (.inr (none, w5))) else none) → X = some (.inr (none, w')))) ∧ RS w' t n most S ∧ SeR w' a c L' ∧ Mf w w' (seP a) ∧ ((L.length : Int) < 40 → L' = if wt then L ++ [(12, 0, 0)] else L) := by
  cases wt with
  | false => exact ⟨w, L, fun X hX => by rw [hX]; rfl, h, hE, Mf.refl _ _, fun _ => rfl⟩
  | true =>
    obtain ⟨w', L', a1, a2, a3, a4⟩ := t_addStep (d := d + 2) hE (s := 0) (v := 0) (h.2.2.1.k30 (W := 12) (by omega)) (by omega)
    refine ⟨w', L', fun X hX => ?_, h.sn a3 ha, a2, a3.mono (fun r j z => Or.inr z), fun y => a4 y⟩
    rw [hX, if_neg (by decide), if_pos hE.1.1.1, a1]
    rfl
/-- with a fault a condition ends -/
theorem l_cdFault {w : sW} {c k : Int} {L : List Sp} {wt : Bool} {S : Ts} (h : RS w t n most S) (z : S.1 ≠ 0) (hE : SeR w a c L) (ha : 70 ≤ a) : ∃ w' L', Rn (Ex pro (d + 3)) mX7_readCond (13, [some (rV a), some (rV 34), some (rV q), some (iV D), some (iV (bI1 wt)), some (iV k), none], [], w) (none, w') ∧ RS w' t n most S ∧ SeR w' a c L' ∧ Mf w w' (seP a) := by
  obtain ⟨w', L', a1, a2, a3, a4, a5⟩ := l_cdEnd (d := d) (k := k) (wt := wt) h hE ha
  refine ⟨w', L', Rn.ret ?_, a2, a3, a4⟩
  rw [eX7_readCond_13]
  by_cases y : k < 20
  · rw [if_pos y, if_pos h.1.1.1.1, h.2.1.1, if_neg z]
    exact a1 _ rfl
  · rw [if_neg y]
    exact a1 _ rfl
theorem l_cond (hq : q = 36 ∨ q = 53) (ha : 70 ≤ a) (H : OneC (d + 3) t n most A q a D sa) (hs : ∀ p c, 0 ≤ p → 0 ≤ c → c ≤ 20 → RsOk n p c (sa p c)) {K : List Sp} {c0 : Int} (hK : (K.length : Int) ≤ 2 * c0) (hc0 : 0 ≤ c0) : ∀ (g : Nat) (k : Int) (wt : Bool) (fo fa : Sb) (w : sW) (p c : Int) (L : List Sp), k + g = 21 → 0 ≤ k → RS w t n most (0, 0, p) → StI w q A → SeR w a c L → k + 1 + c0 ≤ c → (L.length : Int) ≤ K.length + 2 * (c - c0) - 1 - bI1 wt → Dw A.1 K L wt fo fa → ∃ w' L' c', Rn (Ex pro (d + 3)) mX7_readCond (13, [some (rV a), some (rV 34), some (rV q), some (iV D), some (iV (bI1 wt)), some (iV k), none], [], w) (none, w') ∧ RS w' t n most (cdF t n most sa g wt fo fa p c).1 ∧ SeR w' a c' L' ∧ Mf w w' (seP a) ∧ ((cdF t n most sa g wt fo fa p c).1.1 = 0 → c' = (cdF t n most sa g wt fo fa p c).2.1 ∧ (L'.length : Int) ≤ K.length + 2 * (c' - c0) - 1 ∧ Dn A.1 K L' (cdF t n most sa g wt fo fa p c).2.2)
  | 0, k, wt, fo, fa, w, p, c, L, hg, hk, h, hS, hE, hc, hl, hd => by
    have := hE.2.2.2.2.1
    omega
  | g + 1, k, wt, fo, fa, w, p, c, L, hg, hk, h, hS, hE, hc, hl, hd => by
    have c20 := hE.2.2.2.2.1
    have k4 := h.1.1.1.1
    have k7 := hE.1.1.1
    have wr := tkW_rg t n most p
    have w9 : gv w 34 9 = tkW t n most p := h.1.2.2.2.2.2.2.2
    have hp : 0 ≤ p := h.2.2.2
    have b01 : bI1 wt = 0 ∨ bI1 wt = 1 := by cases wt <;> simp
    have ti := fun e => tk_in (t := t) (n := n) (most := most) (p := p) e
    unfold cdF
    by_cases c13 : tkW t n most p = 13
    · rw [if_pos c13]
      have k2 := wr.2 (by omega)
      have t2 := ti (by omega)
      obtain ⟨w1, a1, a2, a3, a4, a5⟩ := t_next (d := d + 1) h.2.2.1 h.1 h.2.1 (show 2 ≤ tkK t n most p by omega) hp
      have m1 : Mf w w1 (seP a) := a5.mono (fun r j z => by omega)
      have R1 : RS w1 t n most (0, 0, tkT t n most p) := ⟨a2, a3, a4, by show 0 ≤ tkT t n most p; omega⟩
      have E1 : SeR w1 a c L := hE.mf a5 (fun j j0 j1 => by omega) (fun r j r0 r1 => by omega)
      obtain ⟨w2, L2, c2, e1, e2, e3, e4, e5⟩ := H w1 _ c L R1 (hS.mf a5 (fun r j r0 r1 => by omega)) E1 (by omega)
      obtain ⟨w3, L3, f1, f2, f3, f4⟩ := t_addStep (d := d + 2) e3 (s := 0) (v := 0) (e2.2.2.1.k30 (W := 13) (by omega)) (by omega)
      have m3 : Mf w w3 (seP a) := m1.tr (e4.tr (f3.mono (fun r j z => Or.inr z)))
      have R3 := e2.sn f3 ha
      have go : ∀ res, Rn (Ex pro (d + 3)) mX7_readCond (13, [some (rV a), some (rV 34), some (rV q), some (iV D), some (iV (bI1 wt)), some (iV (k + 1)), none], [], w3) res → Rn (Ex pro (d + 3)) mX7_readCond (13, [some (rV a), some (rV 34), some (rV q), some (iV D), some (iV (bI1 wt)), some (iV k), none], [], w) res := fun res r => by
        have s97 : Rn (Ex pro (d + 3)) mX7_readCond (97, [some (rV a), some (rV 34), some (rV q), some (iV D), none, some (iV k), some (rV 13)], [iV (bI1 wt)], w1) res := by
          refine Rn.cut ?_ r
          rw [eX7_readCond_97, if_pos E1.1.1.1, e1]
          simp only [bN]
          rw [if_pos (by simp), if_pos (by simp), if_pos e3.1.1.1, f1]
          simp only []
          rw [w32_eq (by omega) (by omega)]
        have s79 : Rn (Ex pro (d + 3)) mX7_readCond (79, [some (rV a), some (rV 34), some (rV q), some (iV D), some (iV (bI1 wt)), some (iV k), some (rV 13)], [], w1) res := by
          refine Rn.cut ?_ s97
          rw [eX7_readCond_79]
          rcases b01 with b | b
          · rw [b, if_pos rfl, if_pos (by omega), if_neg (by omega)]
          · rw [b, if_neg (by omega)]
        refine Rn.cut ?_ s79
        rw [eX7_readCond_13, if_pos (by omega), if_pos k4, h.2.1.1, if_pos rfl, if_pos k4, w9, c13, if_pos (by omega), if_neg (by omega), if_pos k4, if_pos (by omega), if_pos rfl, if_pos k4, if_pos k4, a1]
        simp only [bN]
        rw [if_pos (by simp), if_neg (by simp)]
      by_cases z : (sa (tkT t n most p) c).1.1 = 0
      · rw [if_pos z]
        have ok := hs (tkT t n most p) c (by omega) (by omega) (by omega) z
        obtain ⟨x1, x2, x3⟩ := e5 z
        have l2 : (L2.length : Int) < 40 := by omega
        rw [f4 l2] at f2
        rw [x1] at f2 x2
        obtain ⟨w', L', c', g1, g2, g3, g4, g5⟩ := l_cond hq ha H hs hK hc0 g (k + 1) wt fo (fun B r => fa B r && (sa (tkT t n most p) c).2.2 B r) w3 (sa (tkT t n most p) c).1.2.2 (sa (tkT t n most p) c).2.1 (L2 ++ [(13, 0, 0)]) (by omega) (by omega) (R3.z z ok.1) (hS.mf m3 (fun r j r0 r1 => by omega)) f2 (by omega) (by rw [List.length_append]; show ((L2.length + 1 : Nat) : Int) ≤ _; omega) (hd.and x3)
        exact ⟨w', L', c', go _ g1, g2, g3, m3.tr g4, g5⟩
      · rw [if_neg z]
        obtain ⟨w', L', g1, g2, g3, g4⟩ := l_cdFault (d := d) (q := q) (D := D) (k := k + 1) (wt := wt) R3 z f2 ha
        exact ⟨w', L', c2, go _ g1, g2, g3, m3.tr g4, fun y => absurd y z⟩
    · rw [if_neg c13]
      by_cases c12 : tkW t n most p = 12
      · rw [if_pos c12]
        have k2 := wr.2 (by omega)
        have t2 := ti (by omega)
        obtain ⟨w0, a1, a2, a3, a4, a5⟩ := t_next (d := d + 1) h.2.2.1 h.1 h.2.1 (show 2 ≤ tkK t n most p by omega) hp
        have R0 : RS w0 t n most (0, 0, tkT t n most p) := ⟨a2, a3, a4, by show 0 ≤ tkT t n most p; omega⟩
        have E0 : SeR w0 a c L := hE.mf a5 (fun j j0 j1 => by omega) (fun r j r0 r1 => by omega)
        have l1 : (L.length : Int) < 40 := by omega
        -- the or that waited
        have mid : ∃ w1, SeR w1 a c (if wt then L ++ [(12, 0, 0)] else L) ∧ RS w1 t n most (0, 0, tkT t n most p) ∧ Mf w0 w1 (snP a) ∧ ∀ res, Rn (Ex pro (d + 3)) mX7_readCond (79, [some (rV a), some (rV 34), some (rV q), some (iV D), some (iV (bI1 wt)), some (iV k), some (rV 12)], [], w1) res → Rn (Ex pro (d + 3)) mX7_readCond (13, [some (rV a), some (rV 34), some (rV q), some (iV D), some (iV (bI1 wt)), some (iV k), none], [], w) res := by
          cases wt with
          | false =>
            refine ⟨w0, E0, R0, Mf.refl _ _, fun res r => Rn.cut ?_ r⟩
            rw [eX7_readCond_13, if_pos (by omega), if_pos k4, h.2.1.1, if_pos rfl, if_pos k4, w9, c12, if_pos (by omega), if_pos rfl, if_pos k4, if_pos k4, a1]
            simp only [bN]
            rw [if_pos (by simp), if_pos (by simp), if_pos (by simp)]
          | true =>
            obtain ⟨w1, L1, f1, f2, f3, f4⟩ := t_addStep (d := d + 2) E0 (s := 0) (v := 0) (a4.k30 (W := 12) (by omega)) (by omega)
            rw [f4 l1] at f2
            refine ⟨w1, f2, R0.sn f3 ha, f3, fun res r => Rn.cut ?_ r⟩
            rw [eX7_readCond_13, if_pos (by omega), if_pos k4, h.2.1.1, if_pos rfl, if_pos k4, w9, c12, if_pos (by omega), if_pos rfl, if_pos k4, if_pos k4, a1]
            simp only [bN]
            rw [if_pos (by simp), if_pos (by simp), if_neg (by simp), if_pos E0.1.1.1, f1]
        obtain ⟨w1, E1, R1, m01, go1⟩ := mid
        have m1 : Mf w w1 (seP a) := (a5.trans m01).mono (fun r j z => by omega)
        have ll : (((if wt then L ++ [(12, 0, 0)] else L) : List Sp).length : Int) ≤ K.length + 2 * (c - c0) - 1 := by
          cases wt with
          | false =>
            have hl' : (L.length : Int) ≤ K.length + 2 * (c - c0) - 1 - 0 := hl
            show (L.length : Int) ≤ _
            omega
          | true =>
            have hl' : (L.length : Int) ≤ K.length + 2 * (c - c0) - 1 - 1 := hl
            show ((L ++ [(12, 0, 0)]).length : Int) ≤ _
            rw [List.length_append]
            show ((L.length + 1 : Nat) : Int) ≤ _
            omega
        have hdn : Dn A.1 K (if wt then L ++ [(12, 0, 0)] else L) (orF wt fo fa) := by
          cases wt with
          | false => exact hd.no
          | true => exact hd.or
        generalize (if wt then L ++ [(12, 0, 0)] else L : List Sp) = L1 at E1 ll hdn
        obtain ⟨w2, L2, c2, e1, e2, e3, e4, e5⟩ := H w1 _ c L1 R1 (hS.mf m1 (fun r j r0 r1 => by omega)) E1 (by omega)
        have m2 : Mf w w2 (seP a) := m1.tr e4
        have go : ∀ res, Rn (Ex pro (d + 3)) mX7_readCond (13, [some (rV a), some (rV 34), some (rV q), some (iV D), some (iV 1), some (iV (k + 1)), none], [], w2) res → Rn (Ex pro (d + 3)) mX7_readCond (13, [some (rV a), some (rV 34), some (rV q), some (iV D), some (iV (bI1 wt)), some (iV k), none], [], w) res := fun res r => by
          have s97 : Rn (Ex pro (d + 3)) mX7_readCond (97, [some (rV a), some (rV 34), some (rV q), some (iV D), none, some (iV k), some (rV 12)], [iV 1], w1) res := by
            refine Rn.cut ?_ r
            rw [eX7_readCond_97, if_pos E1.1.1.1, e1]
            simp only [bN]
            rw [if_pos (by simp), if_neg (by simp), w32_eq (by omega) (by omega)]
          refine go1 _ (Rn.cut ?_ s97)
          rw [eX7_readCond_79]
          rcases b01 with b | b
          · rw [b, if_pos rfl, if_pos (by omega), if_pos rfl]
          · rw [b, if_neg (by omega)]
        by_cases z : (sa (tkT t n most p) c).1.1 = 0
        · rw [if_pos z]
          have ok := hs (tkT t n most p) c (by omega) (by omega) (by omega) z
          obtain ⟨x1, x2, x3⟩ := e5 z
          rw [x1] at e3 x2
          obtain ⟨w', L', c', g1, g2, g3, g4, g5⟩ := l_cond hq ha H hs hK hc0 g (k + 1) true (orF wt fo fa) (sa (tkT t n most p) c).2.2 w2 (sa (tkT t n most p) c).1.2.2 (sa (tkT t n most p) c).2.1 L2 (by omega) (by omega) (e2.z z ok.1) (hS.mf m2 (fun r j r0 r1 => by omega)) e3 (by omega) (by show (L2.length : Int) ≤ _ - 1 - 1; omega) (hdn.wt x3)
          exact ⟨w', L', c', go _ g1, g2, g3, m2.tr g4, g5⟩
        · rw [if_neg z]
          obtain ⟨w', L', g1, g2, g3, g4⟩ := l_cdFault (d := d) (q := q) (D := D) (k := k + 1) (wt := true) e2 z e3 ha
          exact ⟨w', L', c2, go _ g1, g2, g3, m2.tr g4, fun y => absurd y z⟩
      · rw [if_neg c12]
        obtain ⟨w', L', a1, a2, a3, a4, a5⟩ := l_cdEnd (d := d) (k := k) (wt := wt) h hE ha
        have l1 : (L.length : Int) < 40 := by omega
        rw [a5 l1] at a3
        refine ⟨w', _, c, Rn.ret ?_, a2, a3, a4, fun _ => ⟨rfl, ?_, ?_⟩⟩
        · rw [eX7_readCond_13, if_pos (by omega), if_pos k4, h.2.1.1, if_pos rfl, if_pos k4, w9, if_pos (by omega), if_neg c12, if_pos k4, if_pos (by omega), if_neg c13]
          exact a1 _ rfl
        · cases wt with
          | false =>
            have hl' : (L.length : Int) ≤ K.length + 2 * (c - c0) - 1 - 0 := hl
            show (L.length : Int) ≤ _
            omega
          | true =>
            have hl' : (L.length : Int) ≤ K.length + 2 * (c - c0) - 1 - 1 := hl
            show ((L ++ [(12, 0, 0)]).length : Int) ≤ _
            rw [List.length_append]
            show ((L.length + 1 : Nat) : Int) ≤ _
            omega
        · cases wt with
          | false => exact hd.no
          | true => exact hd.or
theorem t_cond (hq : q = 36 ∨ q = 53) (ha : 70 ≤ a) (H : OneC (d + 3) t n most A q a D sa) (hs : ∀ p c, 0 ≤ p → 0 ≤ c → c ≤ 20 → RsOk n p c (sa p c)) : CndC (d + 4) t n most A q a D sa := fun w p c L h hS hE hl => by
  have c20 := hE.2.2.2.2.1
  have hp : 0 ≤ p := h.2.2.2
  obtain ⟨w1, L1, c1, a1, a2, a3, a4, a5⟩ := H w p c L h hS hE hl
  have go : ∀ res, Rn (Ex pro (d + 3)) mX7_readCond (13, [some (rV a), some (rV 34), some (rV q), some (iV D), some (iV (bI1 false)), some (iV 0), none], [], w1) res → Ex pro (d + 4) 68 w [rV a, rV 34, rV q, iV D] = some res := fun res r => by
    refine xX7_readCond (Rn.cut ?_ r)
    rw [eX7_readCond_0, if_pos hE.1.1.1, a1]
    rfl
  unfold cdT
  by_cases z : (sa p c).1.1 = 0
  · rw [if_pos z]
    have ok := hs p c hp c20.1 c20.2 z
    obtain ⟨x1, x2, x3⟩ := a5 z
    rw [x1] at a3 x2
    obtain ⟨w', L', c', g1, g2, g3, g4, g5⟩ := l_cond (d := d) (D := D) hq ha H hs hl c20.1 21 0 false fN (sa p c).2.2 w1 (sa p c).1.2.2 (sa p c).2.1 L1 (by omega) (by omega) (a2.z z ok.1) (hS.mf a4 (fun r j r0 r1 => by omega)) a3 (by omega) (by show (L1.length : Int) ≤ _ - 1 - 0; omega) x3
    exact ⟨w', L', c', go _ g1, g2, g3, a4.tr g4, g5⟩
  · rw [if_neg z]
    obtain ⟨w', L', g1, g2, g3, g4⟩ := l_cdFault (d := d) (q := q) (D := D) (k := 0) (wt := false) a2 z a3 ha
    exact ⟨w', L', c1, go _ g1, g2, g3, a4.tr g4, fun y => absurd y z⟩
end SR2
