/-! ===== what is checked of each instruction, by a program that the kernel runs (printed by wip/whole/siml.py) ===== -/
def wG (h : Nat) (c : Cond) : Bool := decide (lw_tbl[h]? = some c) && goodWord c
theorem wG_s {h : Nat} {c : Cond} (q : wG h c = true) : c ∈ tG := by
  simp only [wG, Bool.and_eq_true, decide_eq_true_eq] at q
  exact List.mem_filter.mpr ⟨List.mem_of_getElem? q.1, q.2⟩
def isRet (e : Instr) (ax : List Int) : Bool := match e with
  | .ireturn => true
  | .lreturn => true
  | .areturn => true
  | .return_ => true
  | .new _ => ax.isEmpty
  | _ => false
def vField (own : String) (i tg : Nat) (ci fk : Int) (h : Nat) : Bool :=
  decide (1 ≤ ci ∧ ci ≤ 10 ∧ 0 ≤ fk ∧ fk.toNat < nF ci ∧ tg = fT ci fk.toNat) && wG h (.fieldLink own i ((clN (ci.toNat - 1)).2.1 fk.toNat).1 ((clN (ci.toNat - 1)).2.1 fk.toNat).2.1 ((clN (ci.toNat - 1)).2.1 fk.toNat).2.2.1)
def vWord (own : String) (i tg : Nat) (fk : Int) (h : Nat) : Bool :=
  (decide (fk = 0 ∧ tg = 1) && wG h (.fieldLink own i RX10 "code" "J")) || (decide (fk = 1 ∧ tg = 0) && wG h (.fieldLink own i RX10 "sort" "I")) || (decide (fk = 2 ∧ tg = 0) && wG h (.fieldLink own i RX10 "base" "I"))
def vLink (own : String) (i h : Nat) (nest : Bool) (y : MethodName) : Bool := bif nest then decide (nestW[h]? = some (.methodLinkNest own i y "BitRopes")) else wG h (.methodLink own i y)
theorem vLink_s {own : String} {i h : Nat} {nest : Bool} {y : MethodName} (q : vLink own i h nest y = true) : Cond.methodLink own i y ∈ tG ∨ ∃ host, Cond.methodLinkNest own i y host ∈ nestW := by
  cases nest with
  | true => exact Or.inr ⟨_, List.mem_of_getElem? (of_decide_eq_true q)⟩
  | false => exact Or.inl (wG_s q)
theorem vLink_s2 {own : String} {i h ne : Nat} {y : MethodName} {Q : Prop} (q : vLink own i h (Nat.beq ne 1) y = true) (hq : ne = 1 → Q) : Cond.methodLink own i y ∈ tG ∨ ∃ host, Cond.methodLinkNest own i y host ∈ nestW ∧ Q := by
  cases e : Nat.beq ne 1 with
  | true => rw [e] at q; exact Or.inr ⟨_, List.mem_of_getElem? (of_decide_eq_true q), hq (Nat.eq_of_beq_eq_true e)⟩
  | false => rw [e] at q; exact Or.inl (wG_s q)
def vB (inf : Nat → Option sI) (own nm : String) (e : Instr) (pc len tg : Nat) (nn : List Nat) (ax : List Int) (sw : List (Int × Nat)) (hh : List Nat) : Bool := match e with
  | .iconst n => decide (len = 1 ∧ -2147483648 ≤ n ∧ n < 2147483648)
  | .bipush n => decide (len = 2 ∧ -128 ≤ n ∧ n < 128)
  | .sipush n => decide (len = 3 ∧ -32768 ≤ n ∧ n < 32768)
  | .lconst n => decide (len = 1 ∧ ax = [((n : Nat) : Int)])
  | .ldc i => (match ax, hh with
    | [x], [h] => decide (len = 2 ∧ -2147483648 ≤ x ∧ x < 2147483648) && wG h (.constant own i (Int32.ofInt x))
    | _, _ => false)
  | .ldc_w i => (match ax, hh with
    | [x], [h] => decide (len = 3 ∧ -2147483648 ≤ x ∧ x < 2147483648) && wG h (.constant own i (Int32.ofInt x))
    | _, _ => false)
  | .ldc2_w i => (match ax, hh with
    | [x], [h] => decide (len = 3 ∧ -9223372036854775808 ≤ x ∧ x < 9223372036854775808) && wG h (.constantLong own i (Int64.ofInt x))
    | _, _ => false)
  | .aconst_null => decide (len = 1)
  | .iload i => decide (len = 2 ∧ i = tg)
  | .iload_n i => decide (len = 1 ∧ (i : Nat) = tg)
  | .istore i => decide (len = 2 ∧ i = tg)
  | .istore_n i => decide (len = 1 ∧ (i : Nat) = tg)
  | .lload i => decide (len = 2 ∧ i = tg)
  | .lload_n i => decide (len = 1 ∧ (i : Nat) = tg)
  | .lstore i => decide (len = 2 ∧ i = tg)
  | .lstore_n i => decide (len = 1 ∧ (i : Nat) = tg)
  | .aload i => decide (len = 2 ∧ i = tg)
  | .aload_n i => decide (len = 1 ∧ (i : Nat) = tg)
  | .astore i => decide (len = 2 ∧ i = tg)
  | .astore_n i => decide (len = 1 ∧ (i : Nat) = tg)
  | .iinc i n => decide (len = 3 ∧ i = tg)
  | .iadd => decide (len = 1)
  | .isub => decide (len = 1)
  | .imul => decide (len = 1)
  | .ishl => decide (len = 1)
  | .ishr => decide (len = 1)
  | .iushr => decide (len = 1)
  | .iand => decide (len = 1)
  | .ior => decide (len = 1)
  | .idiv => decide (len = 1)
  | .irem => decide (len = 1)
  | .ladd => decide (len = 1)
  | .lsub => decide (len = 1)
  | .lmul => decide (len = 1)
  | .land => decide (len = 1)
  | .lor => decide (len = 1)
  | .lcmp => decide (len = 1)
  | .ldiv => decide (len = 1)
  | .lrem => decide (len = 1)
  | .lshl => decide (len = 1)
  | .lshr => decide (len = 1)
  | .lushr => decide (len = 1)
  | .i2l => decide (len = 1)
  | .l2i => decide (len = 1)
  | .i2b => decide (len = 1)
  | .dup => decide (len = 1)
  | .dup2 => decide (len = 1)
  | .pop => decide (len = 1)
  | .iaload => decide (len = 1)
  | .baload => decide (len = 1)
  | .laload => decide (len = 1)
  | .aaload => decide (len = 1)
  | .iastore => decide (len = 1)
  | .bastore => decide (len = 1)
  | .lastore => decide (len = 1)
  | .aastore => decide (len = 1)
  | .arraylength => decide (len = 1)
  | .goto f => decide (len = 3 ∧ (pc : Int) + f = (tg : Int))
  | .ifnull f => decide (len = 3 ∧ (pc : Int) + f = (tg : Int))
  | .ifnonnull f => decide (len = 3 ∧ (pc : Int) + f = (tg : Int))
  | .ifCond c f => decide (len = 3 ∧ (pc : Int) + f = (tg : Int))
  | .if_icmp c f => decide (len = 3 ∧ (pc : Int) + f = (tg : Int))
  | .if_acmp c f => decide (len = 3 ∧ (pc : Int) + f = (tg : Int))
  | .tableswitch d lo hi offs => decide (sw = tsw pc lo offs.toList ∧ (∀ q ∈ offs.toList, 0 ≤ (pc : Int) + q) ∧ hi + 1 = lo + offs.toList.length ∧ (pc : Int) + d = (tg : Int))
  | .lookupswitch d ps => decide (sw = ps.toList.map (fun q => (q.1, ((pc : Int) + q.2).toNat)) ∧ (∀ q ∈ ps.toList, 0 ≤ (pc : Int) + q.2) ∧ (ps.toList.zip (ps.toList.drop 1)).all (fun (a, next) => a.1 < next.1) = true ∧ (pc : Int) + d = (tg : Int))
  | .getfield i => (match ax, hh with
    | [ci, fk], [h] => decide (len = 3) && (bif decide (ci = 30) then vWord own i tg fk h else vField own i tg ci fk h)
    | _, _ => false)
  | .putfield i => (match ax, hh with
    | [ci, fk], [h] => decide (len = 3) && vField own i tg ci fk h && decide (((clN (ci.toNat - 1)).2.1 fk.toNat).2.2.2 = false ∨ (((clN (ci.toNat - 1)).2.1 fk.toNat).2.2.2 = true ∧ nm = "<init>" ∧ ((clN (ci.toNat - 1)).2.1 fk.toNat).1 = own))
    | _, _ => false)
  | .getstatic i => (match ax, hh with
    | [id], [h] => decide (len = 3) && ((decide (1 ≤ id ∧ id ≤ 23) && wG h (.fieldLink own i RX10 (enumN.getD (id.toNat - 1) "") "LBitRopes$Word;")) || (decide (id = 24) && wG h (.fieldLink own i RX10 "ALL" "[LBitRopes$Word;")))
    | _, _ => false)
  | .new i => (match ax, hh with
    | [ci], [h1, h2, h3] => decide (len = 3 ∧ 1 ≤ ci ∧ ci ≤ 10 ∧ tg = nF ci) && wG h1 (.classLink own i (clN (ci.toNat - 1)).1) && wG h2 (.instantiable (clN (ci.toNat - 1)).1 tg) && wG h3 (.initialized (clN (ci.toNat - 1)).1)
    | [], _ => true
    | _, _ => false)
  | .newarray t => (match hh with
    | [h] => decide (len = 2) && (match t with
      | .int => decide (ax = [20]) && wG h (.arrayClass .int)
      | .byte => decide (ax = [21]) && wG h (.arrayClass .byte)
      | .long => decide (ax = [22]) && wG h (.arrayClass .long)
      | .boolean => decide (ax = [23]) && wG h (.arrayClass .boolean)
      | _ => false)
    | _ => false)
  | .anewarray i => (match ax, hh with
    | [kd], [h] => decide (len = 3 ∧ 24 ≤ kd ∧ kd ≤ 27) && wG h (.classLink own i ([RX5, RX8, RX7, RX10].getD (kd.toNat - 24) ""))
    | _, _ => false)
  | .invokevirtual i => (match inf tg, ax, nn, hh with
    | some mi, [ci], [_, n], [h1, h2, h3] => decide (len = 3 ∧ 1 ≤ ci ∧ ci ≤ 10 ∧ parN mi = some n ∧ mi.1.cls = (clN (ci.toNat - 1)).1 ∧ mi.2.2.2.2.2 = []) && wG h1 (.methodLink own i mi.1) && wG h2 (.instanceMethod mi.1) && wG h3 (.selects mi.1.cls mi.1 mi.1)
    | _, _, _, _ => false)
  | .invokespecial i => (match ax, nn with
    | [ci], [] => (match hh with
      | [h1, h2, h3] => decide (len = 3 ∧ ci ≠ 0) && wG h1 (.methodLink own i Lib.objectInit) && wG h2 (.instanceMethod Lib.objectInit) && wG h3 (.code Lib.objectInit ⟨#[0xb1]⟩ 1 none)
      | _ => false)
    | [ci], [n] => (match inf tg, hh with
      | some mi, [h1, h2, ne] => decide (len = 3 ∧ 1 ≤ ci ∧ ci ≤ 10 ∧ parN mi = some n ∧ mi.1.name = "<init>" ∧ mi.2.2.2.1 = none ∧ mi.2.2.2.2.2 = []) && vLink own i h1 (Nat.beq ne 1) mi.1 && wG h2 (.instanceMethod mi.1)
      | _, _ => false)
    | _, _ => false)
  | .invokestatic i => (match nn with
    | [_, n] => (match inf tg, hh with
      | some mi, [h1, h2, ne] => decide (len = 3 ∧ parN mi = some n ∧ (ne = 1 → mi.2.2.2.2.2 = [])) && vLink own i h1 (Nat.beq ne 1) mi.1 && wG h2 (.static mi.1)
      | _, _ => false)
    | [q] => (match hh with
      | [h1, h2, h3, h4] => decide (len = 3) && ((decide (q = 0) && wG h1 (.methodLink own i arraycopyName) && wG h2 (.native arraycopyName) && wG h3 (.static arraycopyName) && wG h4 (.initialized "java/lang/System")) || (decide (q = 1) && wG h1 (.methodLink own i Lib.Math.max.name) && wG h2 (.static Lib.Math.max.name) && wG h3 (.initialized "java/lang/Math") && wG h4 (.code Lib.Math.max.name Lib.Math.max.code 2 (some .int))) || (decide (q = 2) && wG h1 (.methodLink own i Lib.Math.min.name) && wG h2 (.static Lib.Math.min.name) && wG h3 (.initialized "java/lang/Math") && wG h4 (.code Lib.Math.min.name Lib.Math.min.code 2 (some .int))))
      | _ => false)
    | _ => false)
  | .ireturn => decide (len = 1)
  | .lreturn => decide (len = 1)
  | .areturn => decide (len = 1)
  | .return_ => decide (len = 1)
  | _ => false
section SL
variable {Z : MZ} {K : LC} {w0 w : sW} {adr0 : Int → Nat} {C : sC} {ret tg pc len d : Nat} {nn hh : List Nat} {ax : List Int} {sw : List (Int × Nat)} {ls : sL} {st : List sV} {kr : Option sV → sW → Option sO} {k : Nat → sL → List sV → sW → Option sO} {o : sO} {inf : Nat → Option sI} {nm : String} {e : Instr}
theorem ztG (B : BX Z K) {c : Cond} (h : c ∈ tG) : c ∈ zt Z := B.2.2.2.2.2.1 c h
set_option maxHeartbeats 4000000 in
theorem sx_sim (B : BX Z K) (hnm : (zh Z).name = nm) (hLL : lcL K ≤ 100000) (hV : vB inf (zo Z) nm e pc len tg nn ax sw hh = true) (hd : decode (zC Z) pc = .ok (e, len)) (hC : SimC (zl Z) K inf d C) (hrm : RoomD Z d) (hmok : ∀ mid mi, inf mid = some mi → MOK mi) (hB : ∀ pc ls st w', k pc ls st w' = some o → uc w' - uc w0 ≤ (zR Z).cells ∧ us w' - us w0 ≤ (zR Z).slots) (h : sx C ret e tg nn ax sw pc ls st w kr k = some o) (hk : KOK Z K w0 adr0 w k o) (hRet : isRet e ax = true → AtM Z K w0 adr0 pc ls st w) : AtM Z K w0 adr0 pc ls st w := by
  cases e with
  | iconst n =>
    obtain ⟨rfl, h1⟩ := of_decide_eq_true hV
    exact sm_iconst B h1 hd h hk
  | bipush n =>
    obtain ⟨rfl, h1⟩ := of_decide_eq_true hV
    exact sm_bipush B h1 hd h hk
  | sipush n =>
    obtain ⟨rfl, h1⟩ := of_decide_eq_true hV
    exact sm_sipush B h1 hd h hk
  | lconst n =>
    obtain ⟨rfl, h1⟩ := of_decide_eq_true hV
    exact sm_lconst B h1 hd h hk
  | ldc i =>
    simp only [vB] at hV
    split at hV
    · simp only [Bool.and_eq_true, decide_eq_true_eq] at hV
      obtain ⟨⟨rfl, h1⟩, h2⟩ := hV
      exact sm_ldc B ⟨_, rfl, h1, ztG B (wG_s h2)⟩ hd h hk
    · cases hV
  | ldc_w i =>
    simp only [vB] at hV
    split at hV
    · simp only [Bool.and_eq_true, decide_eq_true_eq] at hV
      obtain ⟨⟨rfl, h1⟩, h2⟩ := hV
      exact sm_ldc_w B ⟨_, rfl, h1, ztG B (wG_s h2)⟩ hd h hk
    · cases hV
  | ldc2_w i =>
    simp only [vB] at hV
    split at hV
    · simp only [Bool.and_eq_true, decide_eq_true_eq] at hV
      obtain ⟨⟨rfl, h1⟩, h2⟩ := hV
      exact sm_ldc2_w B ⟨_, rfl, h1, ztG B (wG_s h2)⟩ hd h hk
    · cases hV
  | aconst_null =>
    obtain rfl := of_decide_eq_true hV
    exact sm_aconst_null B hd h hk
  | iload i =>
    obtain ⟨rfl, h1⟩ := of_decide_eq_true hV
    exact sm_iload B h1 hd h hk
  | iload_n i =>
    obtain ⟨rfl, h1⟩ := of_decide_eq_true hV
    exact sm_iload_n B h1 hd h hk
  | istore i =>
    obtain ⟨rfl, h1⟩ := of_decide_eq_true hV
    exact sm_istore B h1 hd h hk
  | istore_n i =>
    obtain ⟨rfl, h1⟩ := of_decide_eq_true hV
    exact sm_istore_n B h1 hd h hk
  | lload i =>
    obtain ⟨rfl, h1⟩ := of_decide_eq_true hV
    exact sm_lload B h1 hd h hk
  | lload_n i =>
    obtain ⟨rfl, h1⟩ := of_decide_eq_true hV
    exact sm_lload_n B h1 hd h hk
  | lstore i =>
    obtain ⟨rfl, h1⟩ := of_decide_eq_true hV
    exact sm_lstore B h1 hd h hk
  | lstore_n i =>
    obtain ⟨rfl, h1⟩ := of_decide_eq_true hV
    exact sm_lstore_n B h1 hd h hk
  | aload i =>
    obtain ⟨rfl, h1⟩ := of_decide_eq_true hV
    exact sm_aload B h1 hd h hk
  | aload_n i =>
    obtain ⟨rfl, h1⟩ := of_decide_eq_true hV
    exact sm_aload_n B h1 hd h hk
  | astore i =>
    obtain ⟨rfl, h1⟩ := of_decide_eq_true hV
    exact sm_astore B h1 hd h hk
  | astore_n i =>
    obtain ⟨rfl, h1⟩ := of_decide_eq_true hV
    exact sm_astore_n B h1 hd h hk
  | iinc i n =>
    obtain ⟨rfl, h1⟩ := of_decide_eq_true hV
    exact sm_iinc B h1 hd h hk
  | iadd =>
    obtain rfl := of_decide_eq_true hV
    exact sm_iadd B hd h hk
  | isub =>
    obtain rfl := of_decide_eq_true hV
    exact sm_isub B hd h hk
  | imul =>
    obtain rfl := of_decide_eq_true hV
    exact sm_imul B hd h hk
  | ishl =>
    obtain rfl := of_decide_eq_true hV
    exact sm_ishl B hd h hk
  | ishr =>
    obtain rfl := of_decide_eq_true hV
    exact sm_ishr B hd h hk
  | iushr =>
    obtain rfl := of_decide_eq_true hV
    exact sm_iushr B hd h hk
  | iand =>
    obtain rfl := of_decide_eq_true hV
    exact sm_iand B hd h hk
  | ior =>
    obtain rfl := of_decide_eq_true hV
    exact sm_ior B hd h hk
  | idiv =>
    obtain rfl := of_decide_eq_true hV
    exact sm_idiv B hd h hk
  | irem =>
    obtain rfl := of_decide_eq_true hV
    exact sm_irem B hd h hk
  | ladd =>
    obtain rfl := of_decide_eq_true hV
    exact sm_ladd B hd h hk
  | lsub =>
    obtain rfl := of_decide_eq_true hV
    exact sm_lsub B hd h hk
  | lmul =>
    obtain rfl := of_decide_eq_true hV
    exact sm_lmul B hd h hk
  | land =>
    obtain rfl := of_decide_eq_true hV
    exact sm_land B hd h hk
  | lor =>
    obtain rfl := of_decide_eq_true hV
    exact sm_lor B hd h hk
  | lcmp =>
    obtain rfl := of_decide_eq_true hV
    exact sm_lcmp B hd h hk
  | ldiv =>
    obtain rfl := of_decide_eq_true hV
    exact sm_ldiv B hd h hk
  | lrem =>
    obtain rfl := of_decide_eq_true hV
    exact sm_lrem B hd h hk
  | lshl =>
    obtain rfl := of_decide_eq_true hV
    exact sm_lshl B hd h hk
  | lshr =>
    obtain rfl := of_decide_eq_true hV
    exact sm_lshr B hd h hk
  | lushr =>
    obtain rfl := of_decide_eq_true hV
    exact sm_lushr B hd h hk
  | i2l =>
    obtain rfl := of_decide_eq_true hV
    exact sm_i2l B hd h hk
  | l2i =>
    obtain rfl := of_decide_eq_true hV
    exact sm_l2i B hd h hk
  | i2b =>
    obtain rfl := of_decide_eq_true hV
    exact sm_i2b B hd h hk
  | dup =>
    obtain rfl := of_decide_eq_true hV
    exact sm_dup B hd h hk
  | dup2 =>
    obtain rfl := of_decide_eq_true hV
    exact sm_dup2 B hd h hk
  | pop =>
    obtain rfl := of_decide_eq_true hV
    exact sm_pop B hd h hk
  | iaload =>
    obtain rfl := of_decide_eq_true hV
    exact sm_iaload B hd h hk
  | baload =>
    obtain rfl := of_decide_eq_true hV
    exact sm_baload B hd h hk
  | laload =>
    obtain rfl := of_decide_eq_true hV
    exact sm_laload B hd h hk
  | aaload =>
    obtain rfl := of_decide_eq_true hV
    exact sm_aaload B hd h hk
  | iastore =>
    obtain rfl := of_decide_eq_true hV
    exact sm_iastore B hd h hk
  | bastore =>
    obtain rfl := of_decide_eq_true hV
    exact sm_bastore B hd h hk
  | lastore =>
    obtain rfl := of_decide_eq_true hV
    exact sm_lastore B hd h hk
  | aastore =>
    obtain rfl := of_decide_eq_true hV
    exact sm_aastore B hd h hk
  | arraylength =>
    obtain rfl := of_decide_eq_true hV
    exact sm_arraylength B hLL hd h hk
  | goto f =>
    obtain ⟨rfl, h1⟩ := of_decide_eq_true hV
    exact sm_goto B h1 hd h hk
  | ifnull f =>
    obtain ⟨rfl, h1⟩ := of_decide_eq_true hV
    exact sm_ifnull B h1 hd h hk
  | ifnonnull f =>
    obtain ⟨rfl, h1⟩ := of_decide_eq_true hV
    exact sm_ifnonnull B h1 hd h hk
  | ifCond c f =>
    obtain ⟨rfl, h1⟩ := of_decide_eq_true hV
    cases c with
    | eq => exact sm_if_eq B h1 hd h hk
    | ne => exact sm_if_ne B h1 hd h hk
    | lt => exact sm_if_lt B h1 hd h hk
    | ge => exact sm_if_ge B h1 hd h hk
    | gt => exact sm_if_gt B h1 hd h hk
    | le => exact sm_if_le B h1 hd h hk
  | if_icmp c f =>
    obtain ⟨rfl, h1⟩ := of_decide_eq_true hV
    cases c with
    | eq => exact sm_icmp_eq B h1 hd h hk
    | ne => exact sm_icmp_ne B h1 hd h hk
    | lt => exact sm_icmp_lt B h1 hd h hk
    | ge => exact sm_icmp_ge B h1 hd h hk
    | gt => exact sm_icmp_gt B h1 hd h hk
    | le => exact sm_icmp_le B h1 hd h hk
  | if_acmp c f =>
    obtain ⟨rfl, h1⟩ := of_decide_eq_true hV
    cases c with
    | eq => exact sm_acmp_eq B h1 hd h hk
    | ne => exact sm_acmp_ne B h1 hd h hk
  | tableswitch d lo hi offs =>
    exact sm_tableswitch B (of_decide_eq_true hV) hd h hk
  | lookupswitch d ps =>
    exact sm_lookupswitch B (of_decide_eq_true hV) hd h hk
  | getfield i =>
    simp only [vB] at hV
    split at hV
    · rename_i ci fk h0
      simp only [Bool.and_eq_true, decide_eq_true_eq] at hV
      obtain ⟨rfl, h1⟩ := hV
      by_cases e : ci = 30
      · rw [decide_eq_true e, cond_true] at h1
        simp only [vWord, Bool.or_eq_true, Bool.and_eq_true, decide_eq_true_eq] at h1
        subst e
        rcases h1 with (⟨⟨rfl, rfl⟩, z⟩ | ⟨⟨rfl, rfl⟩, z⟩) | ⟨⟨rfl, rfl⟩, z⟩
        · exact sm_getword B ⟨0, "code", "J", rfl, Or.inl ⟨rfl, rfl, rfl, rfl⟩, ztG B (wG_s z)⟩ hd h hk
        · exact sm_getword B ⟨1, "sort", "I", rfl, Or.inr (Or.inl ⟨rfl, rfl, rfl, rfl⟩), ztG B (wG_s z)⟩ hd h hk
        · exact sm_getword B ⟨2, "base", "I", rfl, Or.inr (Or.inr ⟨rfl, rfl, rfl, rfl⟩), ztG B (wG_s z)⟩ hd h hk
      · rw [decide_eq_false e, cond_false] at h1
        simp only [vField, Bool.and_eq_true, decide_eq_true_eq] at h1
        obtain ⟨⟨q1, q2, q3, q4, q5⟩, z⟩ := h1
        have e1 : ((ci.toNat - 1 + 1 : Nat) : Int) = ci := by omega
        have e2 : ((fk.toNat : Nat) : Int) = fk := by omega
        exact sm_getfield B ⟨ci.toNat - 1, fk.toNat, by omega, by rw [e1, e2], by rw [e1]; exact q4, by rw [e1]; exact q5, ztG B (wG_s z)⟩ hd h hk
    · cases hV
  | putfield i =>
    simp only [vB] at hV
    split at hV
    · rename_i ci fk h0
      simp only [vField, Bool.and_eq_true, decide_eq_true_eq] at hV
      obtain ⟨⟨rfl, ⟨q1, q2, q3, q4, q5⟩, z⟩, h1⟩ := hV
      have e1 : ((ci.toNat - 1 + 1 : Nat) : Int) = ci := by omega
      have e2 : ((fk.toNat : Nat) : Int) = fk := by omega
      rw [← hnm] at h1
      exact sm_putfield B ⟨ci.toNat - 1, fk.toNat, by omega, by rw [e1, e2], by rw [e1]; exact q4, by rw [e1]; exact q5, ztG B (wG_s z), h1⟩ hd h hk
    · cases hV
  | getstatic i =>
    simp only [vB] at hV
    split at hV
    · rename_i id h0
      simp only [Bool.and_eq_true, Bool.or_eq_true, decide_eq_true_eq] at hV
      obtain ⟨rfl, ⟨q, z⟩ | ⟨q, z⟩⟩ := hV
      · exact sm_getstatic B (Or.inl ⟨id.toNat - 1, by omega, by rw [show ((id.toNat - 1 : Nat) : Int) + 1 = id by omega], ztG B (wG_s z)⟩) hd h hk
      · exact sm_getstatic B (Or.inr ⟨by rw [q], ztG B (wG_s z)⟩) hd h hk
    · cases hV
  | new i =>
    simp only [vB] at hV
    split at hV
    · rename_i ci h1 h2 h3
      simp only [Bool.and_eq_true, decide_eq_true_eq] at hV
      obtain ⟨⟨⟨⟨rfl, q1, q2, q3⟩, z1⟩, z2⟩, z3⟩ := hV
      have e1 : ((ci.toNat - 1 + 1 : Nat) : Int) = ci := by omega
      exact sm_new B ⟨ci.toNat - 1, by omega, by rw [e1], by rw [e1]; exact q3, ztG B (wG_s z1), ztG B (wG_s z2), ztG B (wG_s z3)⟩ hd hB h hk
    · exact hRet rfl
    · cases hV
  | newarray t =>
    simp only [vB] at hV
    split at hV
    · simp only [Bool.and_eq_true, decide_eq_true_eq] at hV
      obtain ⟨rfl, hV⟩ := hV
      split at hV
      · simp only [Bool.and_eq_true, decide_eq_true_eq] at hV
        exact sm_newarr_int B ⟨hV.1, ztG B (wG_s hV.2)⟩ hd hB h hk
      · simp only [Bool.and_eq_true, decide_eq_true_eq] at hV
        exact sm_newarr_byte B ⟨hV.1, ztG B (wG_s hV.2)⟩ hd hB h hk
      · simp only [Bool.and_eq_true, decide_eq_true_eq] at hV
        exact sm_newarr_long B ⟨hV.1, ztG B (wG_s hV.2)⟩ hd hB h hk
      · simp only [Bool.and_eq_true, decide_eq_true_eq] at hV
        exact sm_newarr_bool B ⟨hV.1, ztG B (wG_s hV.2)⟩ hd hB h hk
      · cases hV
    · cases hV
  | anewarray i =>
    simp only [vB] at hV
    split at hV
    · rename_i ka h0
      simp only [Bool.and_eq_true, decide_eq_true_eq] at hV
      obtain ⟨⟨rfl, q1, q2⟩, z⟩ := hV
      have e1 : ((ka.toNat - 24 + 24 : Nat) : Int) = ka := by omega
      exact sm_anewarray B ⟨ka.toNat - 24, by omega, by rw [e1], ztG B (wG_s z)⟩ hd hB h hk
    · cases hV
  | invokevirtual i =>
    simp only [vB] at hV
    split at hV
    · rename_i mi ci rty n h1 h2 h3 hinf
      simp only [Bool.and_eq_true, decide_eq_true_eq] at hV
      obtain ⟨⟨⟨⟨rfl, q1, q2, q3, q4, q0⟩, z1⟩, z2⟩, z3⟩ := hV
      have e1 : ((ci.toNat - 1 + 1 : Nat) : Int) = ci := by omega
      exact sm_invokevirtual B q0 hC hrm hinf (hmok _ _ hinf) ⟨ci.toNat - 1, rty, n, by omega, by rw [e1], rfl, q3, q4⟩ (wG_s z1) (wG_s z2) (wG_s z3) hd hB h hk
    · cases hV
  | invokespecial i =>
    simp only [vB] at hV
    split at hV
    · split at hV
      · simp only [Bool.and_eq_true, decide_eq_true_eq] at hV
        obtain ⟨⟨⟨⟨rfl, q1⟩, z1⟩, z2⟩, z3⟩ := hV
        exact sm_objinit B ⟨rfl, ztG B (wG_s z1), ztG B (wG_s z2), ztG B (wG_s z3)⟩ ⟨_, rfl, q1⟩ hd h hk
      · cases hV
    · rename_i ci n
      split at hV
      · rename_i mi h1 h2 ne hinf
        simp only [Bool.and_eq_true, decide_eq_true_eq] at hV
        obtain ⟨⟨⟨rfl, q1, q2, q3, q4, q5, q0⟩, z1⟩, z2⟩ := hV
        have e1 : ((ci.toNat - 1 + 1 : Nat) : Int) = ci := by omega
        exact sm_invokespecial B q0 hC hrm hinf (hmok _ _ hinf) q5 q4 ⟨ci.toNat - 1, n, by omega, by rw [e1], rfl, q3⟩ (vLink_s z1) (wG_s z2) hd hB h hk
      · cases hV
    · cases hV
  | invokestatic i =>
    simp only [vB] at hV
    split at hV
    · rename_i rty n
      split at hV
      · rename_i mi h1 h2 ne hinf
        simp only [Bool.and_eq_true, decide_eq_true_eq] at hV
        obtain ⟨⟨⟨rfl, q3, q0⟩, z1⟩, z2⟩ := hV
        exact sm_invokestatic B hC hrm hinf (hmok _ _ hinf) ⟨rty, n, rfl, q3⟩ (vLink_s2 z1 q0) (wG_s z2) hd hB h hk
      · cases hV
    · split at hV
      · simp only [Bool.and_eq_true, Bool.or_eq_true, decide_eq_true_eq] at hV
        obtain ⟨rfl, (⟨⟨⟨⟨rfl, z1⟩, z2⟩, z3⟩, z4⟩ | ⟨⟨⟨⟨rfl, z1⟩, z2⟩, z3⟩, z4⟩) | ⟨⟨⟨⟨rfl, z1⟩, z2⟩, z3⟩, z4⟩⟩ := hV
        · exact sm_arraycopy B ⟨rfl, ztG B (wG_s z1), ztG B (wG_s z2), ztG B (wG_s z3), ztG B (wG_s z4)⟩ hd h hk
        · exact sm_mmax B ⟨rfl, ztG B (wG_s z1), ztG B (wG_s z2), ztG B (wG_s z3), ztG B (wG_s z4)⟩ hd hB h hk
        · exact sm_mmin B ⟨rfl, ztG B (wG_s z1), ztG B (wG_s z2), ztG B (wG_s z3), ztG B (wG_s z4)⟩ hd hB h hk
      · cases hV
    · cases hV
  | ireturn =>
    exact hRet rfl
  | lreturn =>
    exact hRet rfl
  | areturn =>
    exact hRet rfl
  | return_ =>
    exact hRet rfl
  | _ => cases hV
end SL
