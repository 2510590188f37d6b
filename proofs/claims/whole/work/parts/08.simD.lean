/-! ===== the context, and the instructions that touch no heap (printed by wip/whole/simd.py) ===== -/
/-- what is fixed in a launch: class numbers and slots, array classes, the enum's constants, its array, the script and the heap at the law's entry -/
abbrev LC : Type := va_G × (Nat → ClassId) × (Nat → Nat) × Nat × Nat × Nat × (Nat → Int32) × Heap
abbrev lcD (K : LC) : va_G := K.1
abbrev lcA (K : LC) : Nat → ClassId := K.2.1
abbrev lcE (K : LC) : Nat → Nat := K.2.2.1
abbrev lcG (K : LC) : Nat := K.2.2.2.1
abbrev lcB (K : LC) : Nat := K.2.2.2.2.1
abbrev lcL (K : LC) : Nat := K.2.2.2.2.2.1
abbrev lcX (K : LC) : Nat → Int32 := K.2.2.2.2.2.2.1
abbrev lcH (K : LC) : Heap := K.2.2.2.2.2.2.2
def oldA (K : LC) : Nat → Prop := fun q => (lcH K).size ≤ q
def enumN : List String := ["LEAF", "ROW", "LETTERS", "PUT", "SET", "CUT", "TURN", "JOIN", "SPLIT", "TYPE", "ERASE", "OR", "AND", "NOT", "EMPTY", "EVEN", "LIKE", "BEGINS", "SIZE", "ONES", "RUNS", "LEAVES", "NUMBER"]
def nestW : List Cond := [.methodLinkNest "BitRopes" 15 ⟨"BitRopes$Reader", "<init>", "()V"⟩ "BitRopes", .methodLinkNest "BitRopes" 32 ⟨"BitRopes$Sentence", "<init>", "()V"⟩ "BitRopes", .methodLinkNest "BitRopes" 42 ⟨"BitRopes$Book", "<init>", "()V"⟩ "BitRopes", .methodLinkNest "BitRopes" 49 ⟨"BitRopes$History", "<init>", "()V"⟩ "BitRopes", .methodLinkNest "BitRopes$State" 23 ⟨"BitRopes$Script", "<init>", "()V"⟩ "BitRopes", .methodLinkNest "BitRopes$State" 32 ⟨"BitRopes$Row", "<init>", "()V"⟩ "BitRopes", .methodLinkNest "BitRopes$State" 136 ⟨"BitRopes", "isLetter", "(I)Z"⟩ "BitRopes"]
abbrev NSx : String := "java/util/NoSuchElementException"
abbrev REx : String := "java/lang/RuntimeException"
abbrev EEx : String := "java/lang/Exception"
def strW : List (Nat × String) := [(146, "no such row or place"), (182, "no such row or bits"), (190, "no such row or no bits"), (192, "no such row, half or ones")]
def thrW : List Cond := [.castable NSx NSx, .declares (Bundle.initS REx), .declares (Bundle.initS EEx), .declares (Bundle.initS Bundle.tN)]
/-- what a throw wants of the statics and the strings -/
def KX (K : LC) (U : State) : Prop :=
  vx_Zq Bundle.tN "UNASSIGNED_STACK" Bundle.steD (oldA K) U (lcH K) ∧ vx_Zq Bundle.tN "SUPPRESSED_SENTINEL" Bundle.listD (oldA K) U (lcH K) ∧ (∀ q ∈ strW, ∃ sa, vk_R "BitRopes" q.1 q.2 sa U) ∧ ∀ w ∈ thrW, w.before #[] U = true
/-- what holds of the class tables and the statics in every state -/
def KN (K : LC) (U : State) : Prop :=
  va_K (lcD K) vwCl (tysO (lcA K)) U ∧ va_En RX10 "LBitRopes$Word;" enumN [] (lcE K) (oldA K) U (lcH K) ∧
  va_Ef 23 RX10 "code" "J" (fun k => .long (Int64.ofInt (wWd.getD k (0, 0, 0)).1)) (lcE K) (oldA K) U (lcH K) ∧
  va_Ef 23 RX10 "sort" "I" (fun k => .int (Int32.ofInt (wWd.getD k (0, 0, 0)).2.1)) (lcE K) (oldA K) U (lcH K) ∧
  va_Ef 23 RX10 "base" "I" (fun k => .int (Int32.ofInt (wWd.getD k (0, 0, 0)).2.2)) (lcE K) (oldA K) U (lcH K) ∧
  va_Z RX10 "ALL" "[LBitRopes$Word;" (.ref (lcG K)) (oldA K) U (lcH K) ∧
  va_T (.object RX10) (lcG K) 23 (fun j => .ref (lcE K j)) (oldA K) U (lcH K) ∧
  (va_X (lcB K) (lcL K) (lcX K) U (lcH K) ∧ lcB K < (lcH K).size) ∧ (∀ w ∈ nestW, va_Nw w U) ∧ (∀ C ∈ [RX5, RX8, RX7, RX10], va_AO C U) ∧ KX K U
def Old (K : LC) (H : Heap) : Prop := (lcH K).size ≤ H.size ∧ ∀ q : Nat, q < (lcH K).size → H[q]? = (lcH K)[q]?
/-- the world w, its numbers at the addresses adr, lies in the heap -/
def RW (K : LC) (w : sW) (adr : Int → Nat) (H : Heap) : Prop :=
  WFw (lcL K) (lcX K) w ∧ (∀ k : Nat, k < 23 → adr ((k : Int) + 1) = lcE K k) ∧ adr 24 = lcG K ∧ adr 25 = lcB K ∧ va_P (lcD K) vwCl (wsO (lcA K) adr w) H ∧ va_D (oldA K) (wsO (lcA K) adr w)
abbrev MZ : Type := Program × Launch × Env × Room × State × MethodId × Array Value × List Frame × Method × Code × (State → Prop) × ByteArray × Nat × String × List Cond
abbrev zp (Z : MZ) : Program := Z.1
abbrev zl (Z : MZ) : Launch := Z.2.1
abbrev ze (Z : MZ) : Env := Z.2.2.1
abbrev zR (Z : MZ) : Room := Z.2.2.2.1
abbrev zs (Z : MZ) : State := Z.2.2.2.2.1
abbrev zm (Z : MZ) : MethodId := Z.2.2.2.2.2.1
abbrev za (Z : MZ) : Array Value := Z.2.2.2.2.2.2.1
abbrev zb (Z : MZ) : List Frame := Z.2.2.2.2.2.2.2.1
abbrev zh (Z : MZ) : Method := Z.2.2.2.2.2.2.2.2.1
abbrev zc (Z : MZ) : Code := Z.2.2.2.2.2.2.2.2.2.1
abbrev zQ (Z : MZ) : State → Prop := Z.2.2.2.2.2.2.2.2.2.2.1
abbrev zC (Z : MZ) : ByteArray := Z.2.2.2.2.2.2.2.2.2.2.2.1
abbrev zn (Z : MZ) : Nat := Z.2.2.2.2.2.2.2.2.2.2.2.2.1
abbrev zo (Z : MZ) : String := Z.2.2.2.2.2.2.2.2.2.2.2.2.2.1
abbrev zt (Z : MZ) : List Cond := Z.2.2.2.2.2.2.2.2.2.2.2.2.2.2
abbrev Wz (Z : MZ) (H : Heap) (locs : List Loc) (cells slots : Nat) (g : JFrame) : Prop := W (zp Z) (zl Z) (ze Z) (zR Z) (zs Z) (zm Z) (za Z) (zb Z) (zh Z) (zc Z) H locs cells slots (zQ Z) g
def tG : List Cond := lw_tbl.filter goodWord
def BX (Z : MZ) (K : LC) : Prop := (zp Z).tables.exec = Jvm.exec ∧ (zc Z).code = zC Z ∧ (zc Z).maxLocals = zn Z ∧ (zs Z).vm.findClass (zo Z) = some (zm Z).cls ∧ (∀ w ∈ zt Z, w.before (za Z) (zs Z) = true) ∧ (∀ w ∈ tG, w ∈ zt Z) ∧ KN K (zs Z) ∧ Old K (zs Z).heap ∧ (1 ≤ (zR Z).frames ∧ 60 ≤ (zR Z).locals)
/-- the machine, at pc with these locals, stack and world, comes to its end -/
def AtM (Z : MZ) (K : LC) (w0 : sW) (adr0 : Int → Nat) (pc : Nat) (ls : sL) (st : List sV) (w : sW) : Prop :=
  ∀ (adr : Int → Nat) (H : Heap) (locs : List Loc) (lsM : Array Slot), RW K w adr H → va_S (oldA K) (zs Z).heap H locs → okS w st → okL w ls → ls.length = zn Z → lv_has lsM (zn Z) (lvs adr ls 0) → (∀ r, r < nx w0 → adr r = adr0 r) → Ext w0 w →
    Wz Z H locs (uc w - uc w0) (us w - us w0) (F0 (zm Z) pc lsM (st.map (mvV adr)))
def KOK (Z : MZ) (K : LC) (w0 : sW) (adr0 : Int → Nat) (w : sW) (k : Nat → sL → List sV → sW → Option sO) (o : sO) : Prop := ∀ pc ls st w', k pc ls st w' = some o → Ext w w' → AtM Z K w0 adr0 pc ls st w'
theorem okS_c {w : sW} {v : sV} {r : List sV} : okS w (v :: r) ↔ okV w v ∧ okS w r := by simp [okS]
theorem in32_f (v : Int32) : in32 v.toInt := in32_toInt v
section SD
variable {Z : MZ} {K : LC} {w0 w : sW} {adr0 : Int → Nat} {C : sC} {ret tg pc : Nat} {nn : List Nat} {ax : List Int} {sw : List (Int × Nat)} {ls : sL} {st : List sV} {kr : Option sV → sW → Option sO} {k : Nat → sL → List sV → sW → Option sO} {o : sO}
theorem sm_iconst (B : BX Z K) {n : Int} (hr : in32 n) (hd : decode (zC Z) pc = .ok (.iconst n, 1)) (h : sx C ret (.iconst n) tg nn ax sw pc ls st w kr k = some o) (hk : KOK Z K w0 adr0 w k o) : AtM Z K w0 adr0 pc ls st w := by
  replace h : k _ ls (.inl n :: st) w = some o := h
  intro adr H locs lsM hR hS ho hL hn hl hg hx
  have hN := hk _ _ _ _ h Ext.rf adr H locs lsM hR hS (okS_c.mpr ⟨hr, ho⟩) hL hn hl hg hx
  exact lv_iconst B.1 B.2.1 hd rfl hN
theorem sm_bipush (B : BX Z K) {n : Int} (hr : -128 ≤ n ∧ n < 128) (hd : decode (zC Z) pc = .ok (.bipush n, 2)) (h : sx C ret (.bipush n) tg nn ax sw pc ls st w kr k = some o) (hk : KOK Z K w0 adr0 w k o) : AtM Z K w0 adr0 pc ls st w := by
  replace h : k _ ls (.inl n :: st) w = some o := h
  intro adr H locs lsM hR hS ho hL hn hl hg hx
  have hN := hk _ _ _ _ h Ext.rf adr H locs lsM hR hS (okS_c.mpr ⟨(by have := hr; show in32 n; unfold in32; omega), ho⟩) hL hn hl hg hx
  exact lv_bipush B.1 B.2.1 hd (bip_of hr.1 hr.2) hN
theorem sm_sipush (B : BX Z K) {n : Int} (hr : -32768 ≤ n ∧ n < 32768) (hd : decode (zC Z) pc = .ok (.sipush n, 3)) (h : sx C ret (.sipush n) tg nn ax sw pc ls st w kr k = some o) (hk : KOK Z K w0 adr0 w k o) : AtM Z K w0 adr0 pc ls st w := by
  replace h : k _ ls (.inl n :: st) w = some o := h
  intro adr H locs lsM hR hS ho hL hn hl hg hx
  have hN := hk _ _ _ _ h Ext.rf adr H locs lsM hR hS (okS_c.mpr ⟨(by have := hr; show in32 n; unfold in32; omega), ho⟩) hL hn hl hg hx
  exact lv_sipush B.1 B.2.1 hd (sip_of hr.1 hr.2) hN
theorem sm_lconst (B : BX Z K) {n : Fin 2} (hr : ax = [((n : Nat) : Int)]) (hd : decode (zC Z) pc = .ok (.lconst n, 1)) (h : sx C ret (.lconst n) tg nn ax sw pc ls st w kr k = some o) (hk : KOK Z K w0 adr0 w k o) : AtM Z K w0 adr0 pc ls st w := by
  obtain ⟨x, rfl, h⟩ := a1_s (show aC ax none _ no2 = some o from h)
  intro adr H locs lsM hR hS ho hL hn hl hg hx
  obtain rfl : x = ((n : Nat) : Int) := by simpa using hr
  have hb : in64 ((n : Nat) : Int) := by have := n.isLt; unfold in64; omega
  have hN := hk _ _ _ _ h Ext.rf adr H locs lsM hR hS (okS_c.mpr ⟨hb, ho⟩) hL hn hl hg hx
  exact lv_lconst B.1 B.2.1 hd (v := Int64.ofInt ((n : Nat) : Int)) (by rfl) hN
theorem sm_ldc (B : BX Z K) {i : Nat} (hr : ∃ x, ax = [x] ∧ in32 x ∧ Cond.constant (zo Z) i (Int32.ofInt x) ∈ zt Z) (hd : decode (zC Z) pc = .ok (.ldc i, 2)) (h : sx C ret (.ldc i) tg nn ax sw pc ls st w kr k = some o) (hk : KOK Z K w0 adr0 w k o) : AtM Z K w0 adr0 pc ls st w := by
  obtain ⟨x, rfl, h⟩ := a1_s (show aC ax none _ no2 = some o from h)
  intro adr H locs lsM hR hS ho hL hn hl hg hx
  obtain ⟨y, e, hb, hc⟩ := hr
  obtain rfl : x = y := by simpa using e
  have hN := hk _ _ _ _ h Ext.rf adr H locs lsM hR hS (okS_c.mpr ⟨hb, ho⟩) hL hn hl hg hx
  exact lv_ldc B.1 B.2.1 B.2.2.2.1 (B.2.2.2.2.1 _ hc) hd hN
theorem sm_ldc_w (B : BX Z K) {i : Nat} (hr : ∃ x, ax = [x] ∧ in32 x ∧ Cond.constant (zo Z) i (Int32.ofInt x) ∈ zt Z) (hd : decode (zC Z) pc = .ok (.ldc_w i, 3)) (h : sx C ret (.ldc_w i) tg nn ax sw pc ls st w kr k = some o) (hk : KOK Z K w0 adr0 w k o) : AtM Z K w0 adr0 pc ls st w := by
  obtain ⟨x, rfl, h⟩ := a1_s (show aC ax none _ no2 = some o from h)
  intro adr H locs lsM hR hS ho hL hn hl hg hx
  obtain ⟨y, e, hb, hc⟩ := hr
  obtain rfl : x = y := by simpa using e
  have hN := hk _ _ _ _ h Ext.rf adr H locs lsM hR hS (okS_c.mpr ⟨hb, ho⟩) hL hn hl hg hx
  exact lv_ldcw B.1 B.2.1 B.2.2.2.1 (B.2.2.2.2.1 _ hc) hd hN
theorem sm_ldc2_w (B : BX Z K) {i : Nat} (hr : ∃ x, ax = [x] ∧ in64 x ∧ Cond.constantLong (zo Z) i (Int64.ofInt x) ∈ zt Z) (hd : decode (zC Z) pc = .ok (.ldc2_w i, 3)) (h : sx C ret (.ldc2_w i) tg nn ax sw pc ls st w kr k = some o) (hk : KOK Z K w0 adr0 w k o) : AtM Z K w0 adr0 pc ls st w := by
  obtain ⟨x, rfl, h⟩ := a1_s (show aC ax none _ no2 = some o from h)
  intro adr H locs lsM hR hS ho hL hn hl hg hx
  obtain ⟨y, e, hb, hc⟩ := hr
  obtain rfl : x = y := by simpa using e
  have hN := hk _ _ _ _ h Ext.rf adr H locs lsM hR hS (okS_c.mpr ⟨hb, ho⟩) hL hn hl hg hx
  exact lv_ldc2 B.1 B.2.1 B.2.2.2.1 (B.2.2.2.2.1 _ hc) hd hN
theorem sm_aconst_null (B : BX Z K) (hd : decode (zC Z) pc = .ok (.aconst_null, 1)) (h : sx C ret (.aconst_null) tg nn ax sw pc ls st w kr k = some o) (hk : KOK Z K w0 adr0 w k o) : AtM Z K w0 adr0 pc ls st w := by
  intro adr H locs lsM hR hS ho hL hn hl hg hx
  have hN := hk _ _ _ _ h Ext.rf adr H locs lsM hR hS (okS_c.mpr ⟨Or.inl rfl, ho⟩) hL hn hl hg hx
  exact lv_null B.1 B.2.1 hd hN
theorem sm_iload (B : BX Z K) {i : Nat} (hr : i = tg) (hd : decode (zC Z) pc = .ok (.iload i, 2)) (h : sx C ret (.iload i) tg nn ax sw pc ls st w kr k = some o) (hk : KOK Z K w0 adr0 w k o) : AtM Z K w0 adr0 pc ls st w := by
  obtain ⟨x, e, h⟩ := ldI_s h
  intro adr H locs lsM hR hS ho hL hn hl hg hx
  have hN := hk _ _ _ _ h Ext.rf adr H locs lsM hR hS (okS_c.mpr ⟨okL_at hL e, ho⟩) hL hn hl hg hx
  exact lv_iload B.1 B.2.1 hd (by rw [hr]; exact lvh_at hl e) hN
theorem sm_iload_n (B : BX Z K) {i : Fin 4} (hr : (i : Nat) = tg) (hd : decode (zC Z) pc = .ok (.iload_n i, 1)) (h : sx C ret (.iload_n i) tg nn ax sw pc ls st w kr k = some o) (hk : KOK Z K w0 adr0 w k o) : AtM Z K w0 adr0 pc ls st w := by
  obtain ⟨x, e, h⟩ := ldI_s h
  intro adr H locs lsM hR hS ho hL hn hl hg hx
  have hN := hk _ _ _ _ h Ext.rf adr H locs lsM hR hS (okS_c.mpr ⟨okL_at hL e, ho⟩) hL hn hl hg hx
  exact lv_iload_n B.1 B.2.1 hd hr (lvh_at hl e) hN
theorem sm_lload (B : BX Z K) {i : Nat} (hr : i = tg) (hd : decode (zC Z) pc = .ok (.lload i, 2)) (h : sx C ret (.lload i) tg nn ax sw pc ls st w kr k = some o) (hk : KOK Z K w0 adr0 w k o) : AtM Z K w0 adr0 pc ls st w := by
  obtain ⟨x, e, h⟩ := ldL_s h
  intro adr H locs lsM hR hS ho hL hn hl hg hx
  have hN := hk _ _ _ _ h Ext.rf adr H locs lsM hR hS (okS_c.mpr ⟨okL_at hL e, ho⟩) hL hn hl hg hx
  exact lv_lload B.1 B.2.1 hd (by rw [hr]; exact lvh_at hl e) hN
theorem sm_lload_n (B : BX Z K) {i : Fin 4} (hr : (i : Nat) = tg) (hd : decode (zC Z) pc = .ok (.lload_n i, 1)) (h : sx C ret (.lload_n i) tg nn ax sw pc ls st w kr k = some o) (hk : KOK Z K w0 adr0 w k o) : AtM Z K w0 adr0 pc ls st w := by
  obtain ⟨x, e, h⟩ := ldL_s h
  intro adr H locs lsM hR hS ho hL hn hl hg hx
  have hN := hk _ _ _ _ h Ext.rf adr H locs lsM hR hS (okS_c.mpr ⟨okL_at hL e, ho⟩) hL hn hl hg hx
  exact lv_lload_n B.1 B.2.1 hd hr (lvh_at hl e) hN
theorem sm_aload (B : BX Z K) {i : Nat} (hr : i = tg) (hd : decode (zC Z) pc = .ok (.aload i, 2)) (h : sx C ret (.aload i) tg nn ax sw pc ls st w kr k = some o) (hk : KOK Z K w0 adr0 w k o) : AtM Z K w0 adr0 pc ls st w := by
  obtain ⟨x, e, h⟩ := ldR_s h
  intro adr H locs lsM hR hS ho hL hn hl hg hx
  have hN := hk _ _ _ _ h Ext.rf adr H locs lsM hR hS (okS_c.mpr ⟨okL_at hL e, ho⟩) hL hn hl hg hx
  have hat := lvh_at hl e
  simp only [List.map_cons, mvV] at hN hat
  by_cases hz : x = 0
  · rw [if_pos hz] at hN hat
    exact lv_aloadN B.1 B.2.1 hd (by rw [hr]; exact hat) hN
  · rw [if_neg hz] at hN hat
    exact lv_aload B.1 B.2.1 hd (by rw [hr]; exact hat) hN
theorem sm_aload_n (B : BX Z K) {i : Fin 4} (hr : (i : Nat) = tg) (hd : decode (zC Z) pc = .ok (.aload_n i, 1)) (h : sx C ret (.aload_n i) tg nn ax sw pc ls st w kr k = some o) (hk : KOK Z K w0 adr0 w k o) : AtM Z K w0 adr0 pc ls st w := by
  obtain ⟨x, e, h⟩ := ldR_s h
  intro adr H locs lsM hR hS ho hL hn hl hg hx
  have hN := hk _ _ _ _ h Ext.rf adr H locs lsM hR hS (okS_c.mpr ⟨okL_at hL e, ho⟩) hL hn hl hg hx
  have hat := lvh_at hl e
  simp only [List.map_cons, mvV] at hN hat
  by_cases hz : x = 0
  · rw [if_pos hz] at hN hat
    exact lv_aload_nN B.1 B.2.1 hd hr hat hN
  · rw [if_neg hz] at hN hat
    exact lv_aload_n B.1 B.2.1 hd hr hat hN
theorem sm_istore (B : BX Z K) {i : Nat} (hr : i = tg) (hd : decode (zC Z) pc = .ok (.istore i, 2)) (h : sx C ret (.istore i) tg nn ax sw pc ls st w kr k = some o) (hk : KOK Z K w0 adr0 w k o) : AtM Z K w0 adr0 pc ls st w := by
  obtain ⟨x, r, hs, h'⟩ := pI_s h
  clear h
  subst hs
  have h := h'
  clear h'
  obtain ⟨h1, h2, h⟩ := st1_s h
  subst hr
  intro adr H locs lsM hR hS ho hL hn hl hg hx
  refine lv_istore B.1 B.2.1 hd hl (by omega) rfl fun ls' hl' => ?_
  exact hk _ _ _ _ h Ext.rf adr H locs ls' hR hS (okS_c.mp ho).2 (okL_set hL (okS_c.mp ho).1) (by simpa using hn) (lvh_set1 h2 hl') hg hx
theorem sm_istore_n (B : BX Z K) {i : Fin 4} (hr : (i : Nat) = tg) (hd : decode (zC Z) pc = .ok (.istore_n i, 1)) (h : sx C ret (.istore_n i) tg nn ax sw pc ls st w kr k = some o) (hk : KOK Z K w0 adr0 w k o) : AtM Z K w0 adr0 pc ls st w := by
  obtain ⟨x, r, hs, h'⟩ := pI_s h
  clear h
  subst hs
  have h := h'
  clear h'
  obtain ⟨h1, h2, h⟩ := st1_s h
  intro adr H locs lsM hR hS ho hL hn hl hg hx
  refine lv_istore_n B.1 B.2.1 hd hr hl (by omega) rfl fun ls' hl' => ?_
  exact hk _ _ _ _ h Ext.rf adr H locs ls' hR hS (okS_c.mp ho).2 (okL_set hL (okS_c.mp ho).1) (by simpa using hn) (lvh_set1 h2 hl') hg hx
theorem sm_lstore (B : BX Z K) {i : Nat} (hr : i = tg) (hd : decode (zC Z) pc = .ok (.lstore i, 2)) (h : sx C ret (.lstore i) tg nn ax sw pc ls st w kr k = some o) (hk : KOK Z K w0 adr0 w k o) : AtM Z K w0 adr0 pc ls st w := by
  obtain ⟨x, r, hs, h'⟩ := pL_s h
  clear h
  subst hs
  have h := h'
  clear h'
  obtain ⟨h1, h2, h⟩ := st2_s h
  subst hr
  intro adr H locs lsM hR hS ho hL hn hl hg hx
  refine lv_lstore B.1 B.2.1 hd hl (by omega) rfl fun ls' hl' => ?_
  exact hk _ _ _ _ h Ext.rf adr H locs ls' hR hS (okS_c.mp ho).2 (okL_setn (okL_set hL (okS_c.mp ho).1)) (by simpa using hn) (lvh_set2 h2 hl') hg hx
theorem sm_lstore_n (B : BX Z K) {i : Fin 4} (hr : (i : Nat) = tg) (hd : decode (zC Z) pc = .ok (.lstore_n i, 1)) (h : sx C ret (.lstore_n i) tg nn ax sw pc ls st w kr k = some o) (hk : KOK Z K w0 adr0 w k o) : AtM Z K w0 adr0 pc ls st w := by
  obtain ⟨x, r, hs, h'⟩ := pL_s h
  clear h
  subst hs
  have h := h'
  clear h'
  obtain ⟨h1, h2, h⟩ := st2_s h
  intro adr H locs lsM hR hS ho hL hn hl hg hx
  refine lv_lstore_n B.1 B.2.1 hd hr hl (by omega) rfl fun ls' hl' => ?_
  exact hk _ _ _ _ h Ext.rf adr H locs ls' hR hS (okS_c.mp ho).2 (okL_setn (okL_set hL (okS_c.mp ho).1)) (by simpa using hn) (lvh_set2 h2 hl') hg hx
theorem sm_astore (B : BX Z K) {i : Nat} (hr : i = tg) (hd : decode (zC Z) pc = .ok (.astore i, 2)) (h : sx C ret (.astore i) tg nn ax sw pc ls st w kr k = some o) (hk : KOK Z K w0 adr0 w k o) : AtM Z K w0 adr0 pc ls st w := by
  obtain ⟨x, r, hs, h'⟩ := pR_s h
  clear h
  subst hs
  have h := h'
  clear h'
  obtain ⟨h1, h2, h⟩ := st1_s h
  subst hr
  intro adr H locs lsM hR hS ho hL hn hl hg hx
  have hN : ∀ ls' : Array Slot, lv_has ls' (zn Z) _ → _ := fun ls' hl' => hk _ _ _ _ h Ext.rf adr H locs ls' hR hS (okS_c.mp ho).2 (okL_set hL (okS_c.mp ho).1) (by simpa using hn) (lvh_set1 h2 hl') hg hx
  by_cases hz : x = 0
  · subst hz
    exact lv_astoreN B.1 B.2.1 hd hl (by omega) rfl hN
  · simp only [List.map_cons, mvV, if_neg hz] at hN ⊢
    exact lv_astore B.1 B.2.1 hd hl (by omega) rfl hN
theorem sm_astore_n (B : BX Z K) {i : Fin 4} (hr : (i : Nat) = tg) (hd : decode (zC Z) pc = .ok (.astore_n i, 1)) (h : sx C ret (.astore_n i) tg nn ax sw pc ls st w kr k = some o) (hk : KOK Z K w0 adr0 w k o) : AtM Z K w0 adr0 pc ls st w := by
  obtain ⟨x, r, hs, h'⟩ := pR_s h
  clear h
  subst hs
  have h := h'
  clear h'
  obtain ⟨h1, h2, h⟩ := st1_s h
  intro adr H locs lsM hR hS ho hL hn hl hg hx
  have hN : ∀ ls' : Array Slot, lv_has ls' (zn Z) _ → _ := fun ls' hl' => hk _ _ _ _ h Ext.rf adr H locs ls' hR hS (okS_c.mp ho).2 (okL_set hL (okS_c.mp ho).1) (by simpa using hn) (lvh_set1 h2 hl') hg hx
  by_cases hz : x = 0
  · subst hz
    exact lv_astore_nN B.1 B.2.1 hd hr hl (by omega) rfl hN
  · simp only [List.map_cons, mvV, if_neg hz] at hN ⊢
    exact lv_astore_n B.1 B.2.1 hd hr hl (by omega) rfl hN
theorem sm_iinc (B : BX Z K) {i : Nat} {n : Int} (hr : i = tg) (hd : decode (zC Z) pc = .ok (.iinc i n, 3)) (h : sx C ret (.iinc i n) tg nn ax sw pc ls st w kr k = some o) (hk : KOK Z K w0 adr0 w k o) : AtM Z K w0 adr0 pc ls st w := by
  obtain ⟨x, e, h⟩ := ldI_s h
  obtain ⟨h1, h2, h⟩ := st1_s h
  subst hr
  intro adr H locs lsM hR hS ho hL hn hl hg hx
  obtain ⟨q, hq⟩ := List.getElem?_of_mem (lvs_mem (adr := adr) ls 0 i _ e)
  rw [Nat.zero_add] at hq
  refine lv_iinc (v := Int32.ofInt (w32 (x + n))) B.1 B.2.1 hd hl hq (ofI_add x n) (by omega) rfl fun ls' hl' => ?_
  exact hk _ _ _ _ h Ext.rf adr H locs ls' hR hS ho (okL_set hL (in32_w _)) (by simpa using hn) (lvh_set1 (v := .inl (w32 (x + n))) h2 hl') hg hx
theorem sm_iadd (B : BX Z K) (hd : decode (zC Z) pc = .ok (.iadd, 1)) (h : sx C ret (.iadd) tg nn ax sw pc ls st w kr k = some o) (hk : KOK Z K w0 adr0 w k o) : AtM Z K w0 adr0 pc ls st w := by
  obtain ⟨y, r, hs, h'⟩ := pI_s h
  clear h
  subst hs
  have h := h'
  clear h'
  obtain ⟨x, r, hs, h'⟩ := pI_s h
  clear h
  subst hs
  have h := h'
  clear h'
  intro adr H locs lsM hR hS ho hL hn hl hg hx
  have hx1 : in32 x := (okS_c.mp (okS_c.mp ho).2).1
  have hy1 : in32 y := (okS_c.mp ho).1
  have hN := hk _ _ _ _ h Ext.rf adr H locs lsM hR hS (okS_c.mpr ⟨in32_w _, (okS_c.mp (okS_c.mp ho).2).2⟩) hL hn hl hg hx
  refine lv_iadd B.1 B.2.1 hd ?_
  rw [show Int32.ofInt x + Int32.ofInt y = Int32.ofInt (w32 (x + y)) from ofI_add x y]
  exact hN
theorem sm_isub (B : BX Z K) (hd : decode (zC Z) pc = .ok (.isub, 1)) (h : sx C ret (.isub) tg nn ax sw pc ls st w kr k = some o) (hk : KOK Z K w0 adr0 w k o) : AtM Z K w0 adr0 pc ls st w := by
  obtain ⟨y, r, hs, h'⟩ := pI_s h
  clear h
  subst hs
  have h := h'
  clear h'
  obtain ⟨x, r, hs, h'⟩ := pI_s h
  clear h
  subst hs
  have h := h'
  clear h'
  intro adr H locs lsM hR hS ho hL hn hl hg hx
  have hx1 : in32 x := (okS_c.mp (okS_c.mp ho).2).1
  have hy1 : in32 y := (okS_c.mp ho).1
  have hN := hk _ _ _ _ h Ext.rf adr H locs lsM hR hS (okS_c.mpr ⟨in32_w _, (okS_c.mp (okS_c.mp ho).2).2⟩) hL hn hl hg hx
  refine lv_isub B.1 B.2.1 hd ?_
  rw [show Int32.ofInt x - Int32.ofInt y = Int32.ofInt (w32 (x - y)) from ofI_sub x y]
  exact hN
theorem sm_imul (B : BX Z K) (hd : decode (zC Z) pc = .ok (.imul, 1)) (h : sx C ret (.imul) tg nn ax sw pc ls st w kr k = some o) (hk : KOK Z K w0 adr0 w k o) : AtM Z K w0 adr0 pc ls st w := by
  obtain ⟨y, r, hs, h'⟩ := pI_s h
  clear h
  subst hs
  have h := h'
  clear h'
  obtain ⟨x, r, hs, h'⟩ := pI_s h
  clear h
  subst hs
  have h := h'
  clear h'
  intro adr H locs lsM hR hS ho hL hn hl hg hx
  have hx1 : in32 x := (okS_c.mp (okS_c.mp ho).2).1
  have hy1 : in32 y := (okS_c.mp ho).1
  have hN := hk _ _ _ _ h Ext.rf adr H locs lsM hR hS (okS_c.mpr ⟨in32_w _, (okS_c.mp (okS_c.mp ho).2).2⟩) hL hn hl hg hx
  refine lv_imul B.1 B.2.1 hd ?_
  rw [show Int32.ofInt x * Int32.ofInt y = Int32.ofInt (w32 (x * y)) from ofI_mul x y]
  exact hN
theorem sm_ishl (B : BX Z K) (hd : decode (zC Z) pc = .ok (.ishl, 1)) (h : sx C ret (.ishl) tg nn ax sw pc ls st w kr k = some o) (hk : KOK Z K w0 adr0 w k o) : AtM Z K w0 adr0 pc ls st w := by
  obtain ⟨y, r, hs, h'⟩ := pI_s h
  clear h
  subst hs
  have h := h'
  clear h'
  obtain ⟨x, r, hs, h'⟩ := pI_s h
  clear h
  subst hs
  have h := h'
  clear h'
  intro adr H locs lsM hR hS ho hL hn hl hg hx
  have hx1 : in32 x := (okS_c.mp (okS_c.mp ho).2).1
  have hy1 : in32 y := (okS_c.mp ho).1
  have hN := hk _ _ _ _ h Ext.rf adr H locs lsM hR hS (okS_c.mpr ⟨in32_f _, (okS_c.mp (okS_c.mp ho).2).2⟩) hL hn hl hg hx
  refine lv_ishl B.1 B.2.1 hd ?_
  rw [show Int32.ofInt x <<< (Int32.ofInt y &&& 31) = Int32.ofInt (f_ishl x y) from (ofI_toInt _).symm]
  exact hN
theorem sm_ishr (B : BX Z K) (hd : decode (zC Z) pc = .ok (.ishr, 1)) (h : sx C ret (.ishr) tg nn ax sw pc ls st w kr k = some o) (hk : KOK Z K w0 adr0 w k o) : AtM Z K w0 adr0 pc ls st w := by
  obtain ⟨y, r, hs, h'⟩ := pI_s h
  clear h
  subst hs
  have h := h'
  clear h'
  obtain ⟨x, r, hs, h'⟩ := pI_s h
  clear h
  subst hs
  have h := h'
  clear h'
  intro adr H locs lsM hR hS ho hL hn hl hg hx
  have hx1 : in32 x := (okS_c.mp (okS_c.mp ho).2).1
  have hy1 : in32 y := (okS_c.mp ho).1
  have hN := hk _ _ _ _ h Ext.rf adr H locs lsM hR hS (okS_c.mpr ⟨in32_f _, (okS_c.mp (okS_c.mp ho).2).2⟩) hL hn hl hg hx
  refine lv_ishr B.1 B.2.1 hd ?_
  rw [show Int32.ofInt x >>> (Int32.ofInt y &&& 31) = Int32.ofInt (f_ishr x y) from (ofI_toInt _).symm]
  exact hN
theorem sm_iand (B : BX Z K) (hd : decode (zC Z) pc = .ok (.iand, 1)) (h : sx C ret (.iand) tg nn ax sw pc ls st w kr k = some o) (hk : KOK Z K w0 adr0 w k o) : AtM Z K w0 adr0 pc ls st w := by
  obtain ⟨y, r, hs, h'⟩ := pI_s h
  clear h
  subst hs
  have h := h'
  clear h'
  obtain ⟨x, r, hs, h'⟩ := pI_s h
  clear h
  subst hs
  have h := h'
  clear h'
  intro adr H locs lsM hR hS ho hL hn hl hg hx
  have hx1 : in32 x := (okS_c.mp (okS_c.mp ho).2).1
  have hy1 : in32 y := (okS_c.mp ho).1
  have hN := hk _ _ _ _ h Ext.rf adr H locs lsM hR hS (okS_c.mpr ⟨in32_f _, (okS_c.mp (okS_c.mp ho).2).2⟩) hL hn hl hg hx
  refine lv_iand B.1 B.2.1 hd ?_
  rw [show Int32.ofInt x &&& Int32.ofInt y = Int32.ofInt (f_iand x y) from (ofI_toInt _).symm]
  exact hN
theorem sm_ior (B : BX Z K) (hd : decode (zC Z) pc = .ok (.ior, 1)) (h : sx C ret (.ior) tg nn ax sw pc ls st w kr k = some o) (hk : KOK Z K w0 adr0 w k o) : AtM Z K w0 adr0 pc ls st w := by
  obtain ⟨y, r, hs, h'⟩ := pI_s h
  clear h
  subst hs
  have h := h'
  clear h'
  obtain ⟨x, r, hs, h'⟩ := pI_s h
  clear h
  subst hs
  have h := h'
  clear h'
  intro adr H locs lsM hR hS ho hL hn hl hg hx
  have hx1 : in32 x := (okS_c.mp (okS_c.mp ho).2).1
  have hy1 : in32 y := (okS_c.mp ho).1
  have hN := hk _ _ _ _ h Ext.rf adr H locs lsM hR hS (okS_c.mpr ⟨in32_f _, (okS_c.mp (okS_c.mp ho).2).2⟩) hL hn hl hg hx
  refine lv_ior B.1 B.2.1 hd ?_
  rw [show Int32.ofInt x ||| Int32.ofInt y = Int32.ofInt (f_ior x y) from (ofI_toInt _).symm]
  exact hN
theorem sm_iushr (B : BX Z K) (hd : decode (zC Z) pc = .ok (.iushr, 1)) (h : sx C ret (.iushr) tg nn ax sw pc ls st w kr k = some o) (hk : KOK Z K w0 adr0 w k o) : AtM Z K w0 adr0 pc ls st w := by
  obtain ⟨y, r, hs, h'⟩ := pI_s h
  clear h
  subst hs
  have h := h'
  clear h'
  obtain ⟨x, r, hs, h'⟩ := pI_s h
  clear h
  subst hs
  have h := h'
  clear h'
  intro adr H locs lsM hR hS ho hL hn hl hg hx
  have hN := hk _ _ _ _ h Ext.rf adr H locs lsM hR hS (okS_c.mpr ⟨in32_f _, (okS_c.mp (okS_c.mp ho).2).2⟩) hL hn hl hg hx
  exact lv_iushr (v := Int32.ofInt (f_iushr x y)) B.1 B.2.1 hd (ofI_toInt _).symm hN
theorem sm_idiv (B : BX Z K) (hd : decode (zC Z) pc = .ok (.idiv, 1)) (h : sx C ret (.idiv) tg nn ax sw pc ls st w kr k = some o) (hk : KOK Z K w0 adr0 w k o) : AtM Z K w0 adr0 pc ls st w := by
  obtain ⟨y, r, hs, h'⟩ := pI_s h
  clear h
  subst hs
  have h := h'
  clear h'
  obtain ⟨x, r, hs, h'⟩ := pI_s h
  clear h
  subst hs
  have h := h'
  clear h'
  by_cases h0 : y = 0
  · rw [if_pos h0] at h; cases h
  rw [if_neg h0] at h
  intro adr H locs lsM hR hS ho hL hn hl hg hx
  have hx1 : in32 x := (okS_c.mp (okS_c.mp ho).2).1
  have hy1 : in32 y := (okS_c.mp ho).1
  have hN := hk _ _ _ _ h Ext.rf adr H locs lsM hR hS (okS_c.mpr ⟨in32_w _, (okS_c.mp (okS_c.mp ho).2).2⟩) hL hn hl hg hx
  refine lv_idiv B.1 B.2.1 hd (fun z => h0 ((ofI_eq0 hy1).mp z)) ?_
  rw [show Int32.ofInt x / Int32.ofInt y = Int32.ofInt (w32 (Int.tdiv x y)) from ofI_div hx1 hy1]
  exact hN
theorem sm_irem (B : BX Z K) (hd : decode (zC Z) pc = .ok (.irem, 1)) (h : sx C ret (.irem) tg nn ax sw pc ls st w kr k = some o) (hk : KOK Z K w0 adr0 w k o) : AtM Z K w0 adr0 pc ls st w := by
  obtain ⟨y, r, hs, h'⟩ := pI_s h
  clear h
  subst hs
  have h := h'
  clear h'
  obtain ⟨x, r, hs, h'⟩ := pI_s h
  clear h
  subst hs
  have h := h'
  clear h'
  by_cases h0 : y = 0
  · rw [if_pos h0] at h; cases h
  rw [if_neg h0] at h
  intro adr H locs lsM hR hS ho hL hn hl hg hx
  have hx1 : in32 x := (okS_c.mp (okS_c.mp ho).2).1
  have hy1 : in32 y := (okS_c.mp ho).1
  have hN := hk _ _ _ _ h Ext.rf adr H locs lsM hR hS (okS_c.mpr ⟨in_tmod32 hx1 hy1 h0, (okS_c.mp (okS_c.mp ho).2).2⟩) hL hn hl hg hx
  refine lv_irem B.1 B.2.1 hd (fun z => h0 ((ofI_eq0 hy1).mp z)) ?_
  rw [show Int32.ofInt x - Int32.ofInt x / Int32.ofInt y * Int32.ofInt y = Int32.ofInt (Int.tmod x y) from ofI_rem hx1 hy1]
  exact hN
theorem sm_ladd (B : BX Z K) (hd : decode (zC Z) pc = .ok (.ladd, 1)) (h : sx C ret (.ladd) tg nn ax sw pc ls st w kr k = some o) (hk : KOK Z K w0 adr0 w k o) : AtM Z K w0 adr0 pc ls st w := by
  obtain ⟨y, r, hs, h'⟩ := pL_s h
  clear h
  subst hs
  have h := h'
  clear h'
  obtain ⟨x, r, hs, h'⟩ := pL_s h
  clear h
  subst hs
  have h := h'
  clear h'
  intro adr H locs lsM hR hS ho hL hn hl hg hx
  have hN := hk _ _ _ _ h Ext.rf adr H locs lsM hR hS (okS_c.mpr ⟨in64_w _, (okS_c.mp (okS_c.mp ho).2).2⟩) hL hn hl hg hx
  refine lv_ladd B.1 B.2.1 hd ?_
  rw [show Int64.ofInt x + Int64.ofInt y = Int64.ofInt (w64 (x + y)) from ofL_add x y]
  exact hN
theorem sm_lsub (B : BX Z K) (hd : decode (zC Z) pc = .ok (.lsub, 1)) (h : sx C ret (.lsub) tg nn ax sw pc ls st w kr k = some o) (hk : KOK Z K w0 adr0 w k o) : AtM Z K w0 adr0 pc ls st w := by
  obtain ⟨y, r, hs, h'⟩ := pL_s h
  clear h
  subst hs
  have h := h'
  clear h'
  obtain ⟨x, r, hs, h'⟩ := pL_s h
  clear h
  subst hs
  have h := h'
  clear h'
  intro adr H locs lsM hR hS ho hL hn hl hg hx
  have hN := hk _ _ _ _ h Ext.rf adr H locs lsM hR hS (okS_c.mpr ⟨in64_w _, (okS_c.mp (okS_c.mp ho).2).2⟩) hL hn hl hg hx
  refine lv_lsub B.1 B.2.1 hd ?_
  rw [show Int64.ofInt x - Int64.ofInt y = Int64.ofInt (w64 (x - y)) from ofL_sub x y]
  exact hN
theorem sm_lmul (B : BX Z K) (hd : decode (zC Z) pc = .ok (.lmul, 1)) (h : sx C ret (.lmul) tg nn ax sw pc ls st w kr k = some o) (hk : KOK Z K w0 adr0 w k o) : AtM Z K w0 adr0 pc ls st w := by
  obtain ⟨y, r, hs, h'⟩ := pL_s h
  clear h
  subst hs
  have h := h'
  clear h'
  obtain ⟨x, r, hs, h'⟩ := pL_s h
  clear h
  subst hs
  have h := h'
  clear h'
  intro adr H locs lsM hR hS ho hL hn hl hg hx
  have hN := hk _ _ _ _ h Ext.rf adr H locs lsM hR hS (okS_c.mpr ⟨in64_w _, (okS_c.mp (okS_c.mp ho).2).2⟩) hL hn hl hg hx
  refine lv_lmul B.1 B.2.1 hd ?_
  rw [show Int64.ofInt x * Int64.ofInt y = Int64.ofInt (w64 (x * y)) from ofL_mul x y]
  exact hN
theorem sm_land (B : BX Z K) (hd : decode (zC Z) pc = .ok (.land, 1)) (h : sx C ret (.land) tg nn ax sw pc ls st w kr k = some o) (hk : KOK Z K w0 adr0 w k o) : AtM Z K w0 adr0 pc ls st w := by
  obtain ⟨y, r, hs, h'⟩ := pL_s h
  clear h
  subst hs
  have h := h'
  clear h'
  obtain ⟨x, r, hs, h'⟩ := pL_s h
  clear h
  subst hs
  have h := h'
  clear h'
  intro adr H locs lsM hR hS ho hL hn hl hg hx
  have hN := hk _ _ _ _ h Ext.rf adr H locs lsM hR hS (okS_c.mpr ⟨in64_toInt _, (okS_c.mp (okS_c.mp ho).2).2⟩) hL hn hl hg hx
  refine lv_land B.1 B.2.1 hd ?_
  rw [show Int64.ofInt x &&& Int64.ofInt y = Int64.ofInt (f_land x y) from (ofL_toInt _).symm]
  exact hN
theorem sm_lor (B : BX Z K) (hd : decode (zC Z) pc = .ok (.lor, 1)) (h : sx C ret (.lor) tg nn ax sw pc ls st w kr k = some o) (hk : KOK Z K w0 adr0 w k o) : AtM Z K w0 adr0 pc ls st w := by
  obtain ⟨y, r, hs, h'⟩ := pL_s h
  clear h
  subst hs
  have h := h'
  clear h'
  obtain ⟨x, r, hs, h'⟩ := pL_s h
  clear h
  subst hs
  have h := h'
  clear h'
  intro adr H locs lsM hR hS ho hL hn hl hg hx
  have hN := hk _ _ _ _ h Ext.rf adr H locs lsM hR hS (okS_c.mpr ⟨in64_toInt _, (okS_c.mp (okS_c.mp ho).2).2⟩) hL hn hl hg hx
  refine lv_lor B.1 B.2.1 hd ?_
  rw [show Int64.ofInt x ||| Int64.ofInt y = Int64.ofInt (f_lor x y) from (ofL_toInt _).symm]
  exact hN
theorem sm_ldiv (B : BX Z K) (hd : decode (zC Z) pc = .ok (.ldiv, 1)) (h : sx C ret (.ldiv) tg nn ax sw pc ls st w kr k = some o) (hk : KOK Z K w0 adr0 w k o) : AtM Z K w0 adr0 pc ls st w := by
  obtain ⟨y, r, hs, h'⟩ := pL_s h
  clear h
  subst hs
  have h := h'
  clear h'
  obtain ⟨x, r, hs, h'⟩ := pL_s h
  clear h
  subst hs
  have h := h'
  clear h'
  by_cases h0 : y = 0
  · rw [if_pos h0] at h; cases h
  rw [if_neg h0] at h
  intro adr H locs lsM hR hS ho hL hn hl hg hx
  have hx1 : in64 x := (okS_c.mp (okS_c.mp ho).2).1
  have hy1 : in64 y := (okS_c.mp ho).1
  have hN := hk _ _ _ _ h Ext.rf adr H locs lsM hR hS (okS_c.mpr ⟨in64_w _, (okS_c.mp (okS_c.mp ho).2).2⟩) hL hn hl hg hx
  refine lv_ldiv B.1 B.2.1 hd (fun z => h0 ((ofL_eq0 hy1).mp z)) ?_
  rw [show Int64.ofInt x / Int64.ofInt y = Int64.ofInt (w64 (Int.tdiv x y)) from ofL_div hx1 hy1]
  exact hN
theorem sm_lrem (B : BX Z K) (hd : decode (zC Z) pc = .ok (.lrem, 1)) (h : sx C ret (.lrem) tg nn ax sw pc ls st w kr k = some o) (hk : KOK Z K w0 adr0 w k o) : AtM Z K w0 adr0 pc ls st w := by
  obtain ⟨y, r, hs, h'⟩ := pL_s h
  clear h
  subst hs
  have h := h'
  clear h'
  obtain ⟨x, r, hs, h'⟩ := pL_s h
  clear h
  subst hs
  have h := h'
  clear h'
  by_cases h0 : y = 0
  · rw [if_pos h0] at h; cases h
  rw [if_neg h0] at h
  intro adr H locs lsM hR hS ho hL hn hl hg hx
  have hx1 : in64 x := (okS_c.mp (okS_c.mp ho).2).1
  have hy1 : in64 y := (okS_c.mp ho).1
  have hN := hk _ _ _ _ h Ext.rf adr H locs lsM hR hS (okS_c.mpr ⟨in_tmod64 hx1 hy1 h0, (okS_c.mp (okS_c.mp ho).2).2⟩) hL hn hl hg hx
  refine lv_lrem B.1 B.2.1 hd (fun z => h0 ((ofL_eq0 hy1).mp z)) ?_
  rw [show Int64.ofInt x - Int64.ofInt x / Int64.ofInt y * Int64.ofInt y = Int64.ofInt (Int.tmod x y) from ofL_rem hx1 hy1]
  exact hN
theorem sm_lshl (B : BX Z K) (hd : decode (zC Z) pc = .ok (.lshl, 1)) (h : sx C ret (.lshl) tg nn ax sw pc ls st w kr k = some o) (hk : KOK Z K w0 adr0 w k o) : AtM Z K w0 adr0 pc ls st w := by
  obtain ⟨y, r, hs, h'⟩ := pI_s h
  clear h
  subst hs
  have h := h'
  clear h'
  obtain ⟨x, r, hs, h'⟩ := pL_s h
  clear h
  subst hs
  have h := h'
  clear h'
  intro adr H locs lsM hR hS ho hL hn hl hg hx
  have hN := hk _ _ _ _ h Ext.rf adr H locs lsM hR hS (okS_c.mpr ⟨in64_toInt _, (okS_c.mp (okS_c.mp ho).2).2⟩) hL hn hl hg hx
  exact lv_lshl (v := Int64.ofInt (f_lshl x y)) B.1 B.2.1 hd (ofL_toInt _).symm hN
theorem sm_lshr (B : BX Z K) (hd : decode (zC Z) pc = .ok (.lshr, 1)) (h : sx C ret (.lshr) tg nn ax sw pc ls st w kr k = some o) (hk : KOK Z K w0 adr0 w k o) : AtM Z K w0 adr0 pc ls st w := by
  obtain ⟨y, r, hs, h'⟩ := pI_s h
  clear h
  subst hs
  have h := h'
  clear h'
  obtain ⟨x, r, hs, h'⟩ := pL_s h
  clear h
  subst hs
  have h := h'
  clear h'
  intro adr H locs lsM hR hS ho hL hn hl hg hx
  have hN := hk _ _ _ _ h Ext.rf adr H locs lsM hR hS (okS_c.mpr ⟨in64_toInt _, (okS_c.mp (okS_c.mp ho).2).2⟩) hL hn hl hg hx
  exact lv_lshr (v := Int64.ofInt (f_lshr x y)) B.1 B.2.1 hd (ofL_toInt _).symm hN
theorem sm_lushr (B : BX Z K) (hd : decode (zC Z) pc = .ok (.lushr, 1)) (h : sx C ret (.lushr) tg nn ax sw pc ls st w kr k = some o) (hk : KOK Z K w0 adr0 w k o) : AtM Z K w0 adr0 pc ls st w := by
  obtain ⟨y, r, hs, h'⟩ := pI_s h
  clear h
  subst hs
  have h := h'
  clear h'
  obtain ⟨x, r, hs, h'⟩ := pL_s h
  clear h
  subst hs
  have h := h'
  clear h'
  intro adr H locs lsM hR hS ho hL hn hl hg hx
  have hN := hk _ _ _ _ h Ext.rf adr H locs lsM hR hS (okS_c.mpr ⟨in64_toInt _, (okS_c.mp (okS_c.mp ho).2).2⟩) hL hn hl hg hx
  exact lv_lushr (v := Int64.ofInt (f_lushr x y)) B.1 B.2.1 hd (ofL_toInt _).symm hN
theorem sm_lcmp (B : BX Z K) (hd : decode (zC Z) pc = .ok (.lcmp, 1)) (h : sx C ret (.lcmp) tg nn ax sw pc ls st w kr k = some o) (hk : KOK Z K w0 adr0 w k o) : AtM Z K w0 adr0 pc ls st w := by
  obtain ⟨y, r, hs, h'⟩ := pL_s h
  clear h
  subst hs
  have h := h'
  clear h'
  obtain ⟨x, r, hs, h'⟩ := pL_s h
  clear h
  subst hs
  have h := h'
  clear h'
  intro adr H locs lsM hR hS ho hL hn hl hg hx
  have hx1 : in64 x := (okS_c.mp (okS_c.mp ho).2).1
  have hy1 : in64 y := (okS_c.mp ho).1
  have hN := hk _ _ _ _ h Ext.rf adr H locs lsM hR hS (okS_c.mpr ⟨(by show in32 (cmpL x y); unfold cmpL in32; split; omega; split <;> omega), (okS_c.mp (okS_c.mp ho).2).2⟩) hL hn hl hg hx
  refine W.lcmp B.1 B.2.1 hd ?_
  rw [cmp_of hx1 hy1]
  exact hN
theorem sm_i2l (B : BX Z K) (hd : decode (zC Z) pc = .ok (.i2l, 1)) (h : sx C ret (.i2l) tg nn ax sw pc ls st w kr k = some o) (hk : KOK Z K w0 adr0 w k o) : AtM Z K w0 adr0 pc ls st w := by
  obtain ⟨x, r, hs, h'⟩ := pI_s h
  clear h
  subst hs
  have h := h'
  clear h'
  intro adr H locs lsM hR hS ho hL hn hl hg hx
  have hx1 : in32 x := (okS_c.mp ho).1
  have hN := hk _ _ _ _ h Ext.rf adr H locs lsM hR hS (okS_c.mpr ⟨(by show in64 x; unfold in64; unfold in32 at hx1; omega), (okS_c.mp ho).2⟩) hL hn hl hg hx
  exact lv_i2l B.1 B.2.1 hd (i2l_of hx1) hN
theorem sm_l2i (B : BX Z K) (hd : decode (zC Z) pc = .ok (.l2i, 1)) (h : sx C ret (.l2i) tg nn ax sw pc ls st w kr k = some o) (hk : KOK Z K w0 adr0 w k o) : AtM Z K w0 adr0 pc ls st w := by
  obtain ⟨x, r, hs, h'⟩ := pL_s h
  clear h
  subst hs
  have h := h'
  clear h'
  intro adr H locs lsM hR hS ho hL hn hl hg hx
  have hx1 : in64 x := (okS_c.mp ho).1
  have hN := hk _ _ _ _ h Ext.rf adr H locs lsM hR hS (okS_c.mpr ⟨in32_w _, (okS_c.mp ho).2⟩) hL hn hl hg hx
  exact lv_l2i B.1 B.2.1 hd (l2i_of hx1) hN
theorem sm_i2b (B : BX Z K) (hd : decode (zC Z) pc = .ok (.i2b, 1)) (h : sx C ret (.i2b) tg nn ax sw pc ls st w kr k = some o) (hk : KOK Z K w0 adr0 w k o) : AtM Z K w0 adr0 pc ls st w := by
  obtain ⟨x, r, hs, h'⟩ := pI_s h
  clear h
  subst hs
  have h := h'
  clear h'
  obtain ⟨hc, h⟩ := if_s h
  intro adr H locs lsM hR hS ho hL hn hl hg hx
  have hN := hk _ _ _ _ h Ext.rf adr H locs lsM hR hS ho hL hn hl hg hx
  exact lv_i2b B.1 B.2.1 hd (i2b_of hc.1 hc.2) hN
theorem sm_dup (B : BX Z K) (hd : decode (zC Z) pc = .ok (.dup, 1)) (h : sx C ret (.dup) tg nn ax sw pc ls st w kr k = some o) (hk : KOK Z K w0 adr0 w k o) : AtM Z K w0 adr0 pc ls st w := by
  obtain ⟨v, r, hs, hc, h'⟩ := p1_s h
  clear h
  subst hs
  have h := h'
  clear h'
  intro adr H locs lsM hR hS ho hL hn hl hg hx
  have hN := hk _ _ _ _ h Ext.rf adr H locs lsM hR hS (okS_c.mpr ⟨(okS_c.mp ho).1, ho⟩) hL hn hl hg hx
  exact lv_dup B.1 B.2.1 hd ((cat_mv adr v).trans hc) hN
theorem sm_dup2 (B : BX Z K) (hd : decode (zC Z) pc = .ok (.dup2, 1)) (h : sx C ret (.dup2) tg nn ax sw pc ls st w kr k = some o) (hk : KOK Z K w0 adr0 w k o) : AtM Z K w0 adr0 pc ls st w := by
  obtain ⟨v, r, hs, hc, h'⟩ := p1_s h
  clear h
  subst hs
  have h := h'
  clear h'
  obtain ⟨u, r, hs, hc2, h'⟩ := p1_s h
  clear h
  subst hs
  have h := h'
  clear h'
  intro adr H locs lsM hR hS ho hL hn hl hg hx
  have hN := hk _ _ _ _ h Ext.rf adr H locs lsM hR hS (okS_c.mpr ⟨(okS_c.mp ho).1, okS_c.mpr ⟨(okS_c.mp (okS_c.mp ho).2).1, ho⟩⟩) hL hn hl hg hx
  exact lv_dup2_11 B.1 B.2.1 hd ((cat_mv adr v).trans hc) ((cat_mv adr u).trans hc2) hN
theorem sm_pop (B : BX Z K) (hd : decode (zC Z) pc = .ok (.pop, 1)) (h : sx C ret (.pop) tg nn ax sw pc ls st w kr k = some o) (hk : KOK Z K w0 adr0 w k o) : AtM Z K w0 adr0 pc ls st w := by
  obtain ⟨v, r, hs, hc, h'⟩ := p1_s h
  clear h
  subst hs
  have h := h'
  clear h'
  intro adr H locs lsM hR hS ho hL hn hl hg hx
  have hN := hk _ _ _ _ h Ext.rf adr H locs lsM hR hS (okS_c.mp ho).2 hL hn hl hg hx
  exact lv_pop B.1 B.2.1 hd ((cat_mv adr v).trans hc) hN
theorem sm_goto (B : BX Z K) {off : Int} (ht : (pc : Int) + off = (tg : Int)) (hd : decode (zC Z) pc = .ok (.goto off, 3)) (h : sx C ret (.goto off) tg nn ax sw pc ls st w kr k = some o) (hk : KOK Z K w0 adr0 w k o) : AtM Z K w0 adr0 pc ls st w := by
  intro adr H locs lsM hR hS ho hL hn hl hg hx
  exact lv_goto B.1 B.2.1 hd ht (hk _ _ _ _ h Ext.rf adr H locs lsM hR hS ho hL hn hl hg hx)
theorem sm_if_eq (B : BX Z K) {off : Int} (ht : (pc : Int) + off = (tg : Int)) (hd : decode (zC Z) pc = .ok (.ifCond .eq off, 3)) (h : sx C ret (.ifCond .eq off) tg nn ax sw pc ls st w kr k = some o) (hk : KOK Z K w0 adr0 w k o) : AtM Z K w0 adr0 pc ls st w := by
  obtain ⟨x, r, hs, h'⟩ := pI_s h
  clear h
  subst hs
  have h := h'
  clear h'
  intro adr H locs lsM hR hS ho hL hn hl hg hx
  have hx1 : in32 x := (okS_c.mp ho).1
  refine lv_if_eq (tgt := tg) B.1 B.2.1 hd ht (fun c => ?_) (fun c => ?_)
  · rw [if_pos ((ofI_eq0 hx1).mp c)] at h
    exact hk _ _ _ _ h Ext.rf adr H locs lsM hR hS (okS_c.mp ho).2 hL hn hl hg hx
  · rw [if_neg (fun z => c ((ofI_eq0 hx1).mpr z))] at h
    exact hk _ _ _ _ h Ext.rf adr H locs lsM hR hS (okS_c.mp ho).2 hL hn hl hg hx
theorem sm_if_ne (B : BX Z K) {off : Int} (ht : (pc : Int) + off = (tg : Int)) (hd : decode (zC Z) pc = .ok (.ifCond .ne off, 3)) (h : sx C ret (.ifCond .ne off) tg nn ax sw pc ls st w kr k = some o) (hk : KOK Z K w0 adr0 w k o) : AtM Z K w0 adr0 pc ls st w := by
  obtain ⟨x, r, hs, h'⟩ := pI_s h
  clear h
  subst hs
  have h := h'
  clear h'
  intro adr H locs lsM hR hS ho hL hn hl hg hx
  have hx1 : in32 x := (okS_c.mp ho).1
  refine lv_if_ne (tgt := tg) B.1 B.2.1 hd ht (fun c => ?_) (fun c => ?_)
  · rw [if_neg (fun z => c ((ofI_eq0 hx1).mpr z))] at h
    exact hk _ _ _ _ h Ext.rf adr H locs lsM hR hS (okS_c.mp ho).2 hL hn hl hg hx
  · rw [if_pos ((ofI_eq0 hx1).mp c)] at h
    exact hk _ _ _ _ h Ext.rf adr H locs lsM hR hS (okS_c.mp ho).2 hL hn hl hg hx
theorem sm_if_lt (B : BX Z K) {off : Int} (ht : (pc : Int) + off = (tg : Int)) (hd : decode (zC Z) pc = .ok (.ifCond .lt off, 3)) (h : sx C ret (.ifCond .lt off) tg nn ax sw pc ls st w kr k = some o) (hk : KOK Z K w0 adr0 w k o) : AtM Z K w0 adr0 pc ls st w := by
  obtain ⟨x, r, hs, h'⟩ := pI_s h
  clear h
  subst hs
  have h := h'
  clear h'
  intro adr H locs lsM hR hS ho hL hn hl hg hx
  have hx1 : in32 x := (okS_c.mp ho).1
  refine lv_if_lt (tgt := tg) B.1 B.2.1 hd ht (fun c => ?_) (fun c => ?_)
  · rw [if_pos ((ofI_lt0 hx1).mp c)] at h
    exact hk _ _ _ _ h Ext.rf adr H locs lsM hR hS (okS_c.mp ho).2 hL hn hl hg hx
  · rw [if_neg (fun z => c ((ofI_lt0 hx1).mpr z))] at h
    exact hk _ _ _ _ h Ext.rf adr H locs lsM hR hS (okS_c.mp ho).2 hL hn hl hg hx
theorem sm_if_ge (B : BX Z K) {off : Int} (ht : (pc : Int) + off = (tg : Int)) (hd : decode (zC Z) pc = .ok (.ifCond .ge off, 3)) (h : sx C ret (.ifCond .ge off) tg nn ax sw pc ls st w kr k = some o) (hk : KOK Z K w0 adr0 w k o) : AtM Z K w0 adr0 pc ls st w := by
  obtain ⟨x, r, hs, h'⟩ := pI_s h
  clear h
  subst hs
  have h := h'
  clear h'
  intro adr H locs lsM hR hS ho hL hn hl hg hx
  have hx1 : in32 x := (okS_c.mp ho).1
  refine lv_if_ge (tgt := tg) B.1 B.2.1 hd ht (fun c => ?_) (fun c => ?_)
  · rw [if_neg (by have := (ofI_ge0 hx1).mp c; omega)] at h
    exact hk _ _ _ _ h Ext.rf adr H locs lsM hR hS (okS_c.mp ho).2 hL hn hl hg hx
  · rw [if_pos (by have : ¬ _ := fun z => c ((ofI_ge0 hx1).mpr z); omega)] at h
    exact hk _ _ _ _ h Ext.rf adr H locs lsM hR hS (okS_c.mp ho).2 hL hn hl hg hx
theorem sm_if_gt (B : BX Z K) {off : Int} (ht : (pc : Int) + off = (tg : Int)) (hd : decode (zC Z) pc = .ok (.ifCond .gt off, 3)) (h : sx C ret (.ifCond .gt off) tg nn ax sw pc ls st w kr k = some o) (hk : KOK Z K w0 adr0 w k o) : AtM Z K w0 adr0 pc ls st w := by
  obtain ⟨x, r, hs, h'⟩ := pI_s h
  clear h
  subst hs
  have h := h'
  clear h'
  intro adr H locs lsM hR hS ho hL hn hl hg hx
  have hx1 : in32 x := (okS_c.mp ho).1
  refine lv_if_gt (tgt := tg) B.1 B.2.1 hd ht (fun c => ?_) (fun c => ?_)
  · rw [if_pos ((ofI_gt0 hx1).mp c)] at h
    exact hk _ _ _ _ h Ext.rf adr H locs lsM hR hS (okS_c.mp ho).2 hL hn hl hg hx
  · rw [if_neg (fun z => c ((ofI_gt0 hx1).mpr z))] at h
    exact hk _ _ _ _ h Ext.rf adr H locs lsM hR hS (okS_c.mp ho).2 hL hn hl hg hx
theorem sm_if_le (B : BX Z K) {off : Int} (ht : (pc : Int) + off = (tg : Int)) (hd : decode (zC Z) pc = .ok (.ifCond .le off, 3)) (h : sx C ret (.ifCond .le off) tg nn ax sw pc ls st w kr k = some o) (hk : KOK Z K w0 adr0 w k o) : AtM Z K w0 adr0 pc ls st w := by
  obtain ⟨x, r, hs, h'⟩ := pI_s h
  clear h
  subst hs
  have h := h'
  clear h'
  intro adr H locs lsM hR hS ho hL hn hl hg hx
  have hx1 : in32 x := (okS_c.mp ho).1
  refine lv_if_le (tgt := tg) B.1 B.2.1 hd ht (fun c => ?_) (fun c => ?_)
  · rw [if_neg (by have := (ofI_le0 hx1).mp c; omega)] at h
    exact hk _ _ _ _ h Ext.rf adr H locs lsM hR hS (okS_c.mp ho).2 hL hn hl hg hx
  · rw [if_pos (by have : ¬ _ := fun z => c ((ofI_le0 hx1).mpr z); omega)] at h
    exact hk _ _ _ _ h Ext.rf adr H locs lsM hR hS (okS_c.mp ho).2 hL hn hl hg hx
theorem sm_icmp_eq (B : BX Z K) {off : Int} (ht : (pc : Int) + off = (tg : Int)) (hd : decode (zC Z) pc = .ok (.if_icmp .eq off, 3)) (h : sx C ret (.if_icmp .eq off) tg nn ax sw pc ls st w kr k = some o) (hk : KOK Z K w0 adr0 w k o) : AtM Z K w0 adr0 pc ls st w := by
  obtain ⟨y, r, hs, h'⟩ := pI_s h
  clear h
  subst hs
  have h := h'
  clear h'
  obtain ⟨x, r, hs, h'⟩ := pI_s h
  clear h
  subst hs
  have h := h'
  clear h'
  intro adr H locs lsM hR hS ho hL hn hl hg hx
  have hx1 : in32 x := (okS_c.mp (okS_c.mp ho).2).1
  have hy1 : in32 y := (okS_c.mp ho).1
  refine lv_icmp_eq (tgt := tg) B.1 B.2.1 hd ht (fun c => ?_) (fun c => ?_)
  · rw [if_pos ((ofI_eq hx1 hy1).mp c)] at h
    exact hk _ _ _ _ h Ext.rf adr H locs lsM hR hS (okS_c.mp (okS_c.mp ho).2).2 hL hn hl hg hx
  · rw [if_neg (fun z => c ((ofI_eq hx1 hy1).mpr z))] at h
    exact hk _ _ _ _ h Ext.rf adr H locs lsM hR hS (okS_c.mp (okS_c.mp ho).2).2 hL hn hl hg hx
theorem sm_icmp_ne (B : BX Z K) {off : Int} (ht : (pc : Int) + off = (tg : Int)) (hd : decode (zC Z) pc = .ok (.if_icmp .ne off, 3)) (h : sx C ret (.if_icmp .ne off) tg nn ax sw pc ls st w kr k = some o) (hk : KOK Z K w0 adr0 w k o) : AtM Z K w0 adr0 pc ls st w := by
  obtain ⟨y, r, hs, h'⟩ := pI_s h
  clear h
  subst hs
  have h := h'
  clear h'
  obtain ⟨x, r, hs, h'⟩ := pI_s h
  clear h
  subst hs
  have h := h'
  clear h'
  intro adr H locs lsM hR hS ho hL hn hl hg hx
  have hx1 : in32 x := (okS_c.mp (okS_c.mp ho).2).1
  have hy1 : in32 y := (okS_c.mp ho).1
  refine lv_icmp_ne (tgt := tg) B.1 B.2.1 hd ht (fun c => ?_) (fun c => ?_)
  · rw [if_neg (fun z => c ((ofI_eq hx1 hy1).mpr z))] at h
    exact hk _ _ _ _ h Ext.rf adr H locs lsM hR hS (okS_c.mp (okS_c.mp ho).2).2 hL hn hl hg hx
  · rw [if_pos ((ofI_eq hx1 hy1).mp c)] at h
    exact hk _ _ _ _ h Ext.rf adr H locs lsM hR hS (okS_c.mp (okS_c.mp ho).2).2 hL hn hl hg hx
theorem sm_icmp_lt (B : BX Z K) {off : Int} (ht : (pc : Int) + off = (tg : Int)) (hd : decode (zC Z) pc = .ok (.if_icmp .lt off, 3)) (h : sx C ret (.if_icmp .lt off) tg nn ax sw pc ls st w kr k = some o) (hk : KOK Z K w0 adr0 w k o) : AtM Z K w0 adr0 pc ls st w := by
  obtain ⟨y, r, hs, h'⟩ := pI_s h
  clear h
  subst hs
  have h := h'
  clear h'
  obtain ⟨x, r, hs, h'⟩ := pI_s h
  clear h
  subst hs
  have h := h'
  clear h'
  intro adr H locs lsM hR hS ho hL hn hl hg hx
  have hx1 : in32 x := (okS_c.mp (okS_c.mp ho).2).1
  have hy1 : in32 y := (okS_c.mp ho).1
  refine lv_icmp_lt (tgt := tg) B.1 B.2.1 hd ht (fun c => ?_) (fun c => ?_)
  · rw [if_pos ((ofI_lt hx1 hy1).mp c)] at h
    exact hk _ _ _ _ h Ext.rf adr H locs lsM hR hS (okS_c.mp (okS_c.mp ho).2).2 hL hn hl hg hx
  · rw [if_neg (fun z => c ((ofI_lt hx1 hy1).mpr z))] at h
    exact hk _ _ _ _ h Ext.rf adr H locs lsM hR hS (okS_c.mp (okS_c.mp ho).2).2 hL hn hl hg hx
theorem sm_icmp_ge (B : BX Z K) {off : Int} (ht : (pc : Int) + off = (tg : Int)) (hd : decode (zC Z) pc = .ok (.if_icmp .ge off, 3)) (h : sx C ret (.if_icmp .ge off) tg nn ax sw pc ls st w kr k = some o) (hk : KOK Z K w0 adr0 w k o) : AtM Z K w0 adr0 pc ls st w := by
  obtain ⟨y, r, hs, h'⟩ := pI_s h
  clear h
  subst hs
  have h := h'
  clear h'
  obtain ⟨x, r, hs, h'⟩ := pI_s h
  clear h
  subst hs
  have h := h'
  clear h'
  intro adr H locs lsM hR hS ho hL hn hl hg hx
  have hx1 : in32 x := (okS_c.mp (okS_c.mp ho).2).1
  have hy1 : in32 y := (okS_c.mp ho).1
  refine lv_icmp_ge (tgt := tg) B.1 B.2.1 hd ht (fun c => ?_) (fun c => ?_)
  · rw [if_neg (by have := (ofI_le hy1 hx1).mp c; omega)] at h
    exact hk _ _ _ _ h Ext.rf adr H locs lsM hR hS (okS_c.mp (okS_c.mp ho).2).2 hL hn hl hg hx
  · rw [if_pos (by have : ¬ _ := fun z => c ((ofI_le hy1 hx1).mpr z); omega)] at h
    exact hk _ _ _ _ h Ext.rf adr H locs lsM hR hS (okS_c.mp (okS_c.mp ho).2).2 hL hn hl hg hx
theorem sm_icmp_gt (B : BX Z K) {off : Int} (ht : (pc : Int) + off = (tg : Int)) (hd : decode (zC Z) pc = .ok (.if_icmp .gt off, 3)) (h : sx C ret (.if_icmp .gt off) tg nn ax sw pc ls st w kr k = some o) (hk : KOK Z K w0 adr0 w k o) : AtM Z K w0 adr0 pc ls st w := by
  obtain ⟨y, r, hs, h'⟩ := pI_s h
  clear h
  subst hs
  have h := h'
  clear h'
  obtain ⟨x, r, hs, h'⟩ := pI_s h
  clear h
  subst hs
  have h := h'
  clear h'
  intro adr H locs lsM hR hS ho hL hn hl hg hx
  have hx1 : in32 x := (okS_c.mp (okS_c.mp ho).2).1
  have hy1 : in32 y := (okS_c.mp ho).1
  refine lv_icmp_gt (tgt := tg) B.1 B.2.1 hd ht (fun c => ?_) (fun c => ?_)
  · rw [if_pos ((ofI_lt hy1 hx1).mp c)] at h
    exact hk _ _ _ _ h Ext.rf adr H locs lsM hR hS (okS_c.mp (okS_c.mp ho).2).2 hL hn hl hg hx
  · rw [if_neg (fun z => c ((ofI_lt hy1 hx1).mpr z))] at h
    exact hk _ _ _ _ h Ext.rf adr H locs lsM hR hS (okS_c.mp (okS_c.mp ho).2).2 hL hn hl hg hx
theorem sm_icmp_le (B : BX Z K) {off : Int} (ht : (pc : Int) + off = (tg : Int)) (hd : decode (zC Z) pc = .ok (.if_icmp .le off, 3)) (h : sx C ret (.if_icmp .le off) tg nn ax sw pc ls st w kr k = some o) (hk : KOK Z K w0 adr0 w k o) : AtM Z K w0 adr0 pc ls st w := by
  obtain ⟨y, r, hs, h'⟩ := pI_s h
  clear h
  subst hs
  have h := h'
  clear h'
  obtain ⟨x, r, hs, h'⟩ := pI_s h
  clear h
  subst hs
  have h := h'
  clear h'
  intro adr H locs lsM hR hS ho hL hn hl hg hx
  have hx1 : in32 x := (okS_c.mp (okS_c.mp ho).2).1
  have hy1 : in32 y := (okS_c.mp ho).1
  refine lv_icmp_le (tgt := tg) B.1 B.2.1 hd ht (fun c => ?_) (fun c => ?_)
  · rw [if_neg (by have := (ofI_le hx1 hy1).mp c; omega)] at h
    exact hk _ _ _ _ h Ext.rf adr H locs lsM hR hS (okS_c.mp (okS_c.mp ho).2).2 hL hn hl hg hx
  · rw [if_pos (by have : ¬ _ := fun z => c ((ofI_le hx1 hy1).mpr z); omega)] at h
    exact hk _ _ _ _ h Ext.rf adr H locs lsM hR hS (okS_c.mp (okS_c.mp ho).2).2 hL hn hl hg hx
theorem sm_ifnull (B : BX Z K) {off : Int} (ht : (pc : Int) + off = (tg : Int)) (hd : decode (zC Z) pc = .ok (.ifnull off, 3)) (h : sx C ret (.ifnull off) tg nn ax sw pc ls st w kr k = some o) (hk : KOK Z K w0 adr0 w k o) : AtM Z K w0 adr0 pc ls st w := by
  obtain ⟨x, r, hs, h'⟩ := pR_s h
  clear h
  subst hs
  have h := h'
  clear h'
  intro adr H locs lsM hR hS ho hL hn hl hg hx
  by_cases hz : x = 0
  · rw [if_pos hz] at h
    have hN := hk _ _ _ _ h Ext.rf adr H locs lsM hR hS (okS_c.mp ho).2 hL hn hl hg hx
    simp only [List.map_cons, mvV, if_pos hz]
    exact lv_ifnullN B.1 B.2.1 hd ht hN
  · rw [if_neg hz] at h
    have hN := hk _ _ _ _ h Ext.rf adr H locs lsM hR hS (okS_c.mp ho).2 hL hn hl hg hx
    simp only [List.map_cons, mvV, if_neg hz]
    exact lv_ifnull B.1 B.2.1 hd hN
theorem sm_ifnonnull (B : BX Z K) {off : Int} (ht : (pc : Int) + off = (tg : Int)) (hd : decode (zC Z) pc = .ok (.ifnonnull off, 3)) (h : sx C ret (.ifnonnull off) tg nn ax sw pc ls st w kr k = some o) (hk : KOK Z K w0 adr0 w k o) : AtM Z K w0 adr0 pc ls st w := by
  obtain ⟨x, r, hs, h'⟩ := pR_s h
  clear h
  subst hs
  have h := h'
  clear h'
  intro adr H locs lsM hR hS ho hL hn hl hg hx
  by_cases hz : x = 0
  · rw [if_pos hz] at h
    have hN := hk _ _ _ _ h Ext.rf adr H locs lsM hR hS (okS_c.mp ho).2 hL hn hl hg hx
    simp only [List.map_cons, mvV, if_pos hz]
    exact lv_ifnonnullN B.1 B.2.1 hd hN
  · rw [if_neg hz] at h
    have hN := hk _ _ _ _ h Ext.rf adr H locs lsM hR hS (okS_c.mp ho).2 hL hn hl hg hx
    simp only [List.map_cons, mvV, if_neg hz]
    exact lv_ifnonnull B.1 B.2.1 hd ht hN
end SD
