section
/-! ===== the small machine: the same bytecode over whole numbers; a world is one function; calls go to an oracle ===== -/
abbrev sV : Type := Int ⊕ (Int ⊕ Int)
abbrev iV (x : Int) : sV := Sum.inl x
abbrev lV (x : Int) : sV := Sum.inr (Sum.inl x)
abbrev rV (x : Int) : sV := Sum.inr (Sum.inr x)
/-- shapes (kind, length), contents, next number, cells and slots made -/
abbrev sW : Type := (Int → Int × Int) × (Int → Int → Int) × Int × Nat × Nat
def kd (w : sW) (r : Int) : Int := (w.1 r).1
def ln (w : sW) (r : Int) : Int := (w.1 r).2
def gv (w : sW) (r k : Int) : Int := w.2.1 r k
def nx (w : sW) : Int := w.2.2.1
def uc (w : sW) : Nat := w.2.2.2.1
def us (w : sW) : Nat := w.2.2.2.2
def sv (w : sW) (r k v : Int) : sW := (w.1, (fun a j => if a = r ∧ j = k then v else w.2.1 a j), w.2.2)
def al (w : sW) (kind len : Int) (slots : Nat) : sW := ((fun a => if a = w.2.2.1 then (kind, len) else w.1 a), (fun a j => if a = w.2.2.1 then 0 else w.2.1 a j), w.2.2.1 + 1, w.2.2.2.1 + 1, w.2.2.2.2 + slots)
def bp (w : sW) (c n : Nat) : sW := (w.1, w.2.1, w.2.2.1, w.2.2.2.1 + c, w.2.2.2.2 + n)
/-- System.arraycopy -/
def cp (w : sW) (src sp dst dp n : Int) : sW := (w.1, (fun a j => if a = dst ∧ dp ≤ j ∧ j < dp + n then w.2.1 src (sp + (j - dp)) else w.2.1 a j), w.2.2)
def w32 (x : Int) : Int := (x + 2147483648) % 4294967296 - 2147483648
def w64 (x : Int) : Int := (x + 9223372036854775808) % 18446744073709551616 - 9223372036854775808
def f_ishl (x y : Int) : Int := (Int32.ofInt x <<< (Int32.ofInt y &&& 31)).toInt
def f_ishr (x y : Int) : Int := (Int32.ofInt x >>> (Int32.ofInt y &&& 31)).toInt
def f_iushr (x y : Int) : Int := ((Int32.ofInt x).toUInt32 >>> ((Int32.ofInt y).toUInt32 &&& Int32.toUInt32 31)).toInt32.toInt
def f_iand (x y : Int) : Int := (Int32.ofInt x &&& Int32.ofInt y).toInt
def f_ior (x y : Int) : Int := (Int32.ofInt x ||| Int32.ofInt y).toInt
def f_lshl (x y : Int) : Int := (Int64.ofInt x <<< ((Int32.ofInt y).toInt64 &&& 63)).toInt
def f_lshr (x y : Int) : Int := (Int64.ofInt x >>> ((Int32.ofInt y).toInt64 &&& 63)).toInt
def f_lushr (x y : Int) : Int := ((Int64.ofInt x).toUInt64 >>> ((Int32.ofInt y).toInt64.toUInt64 &&& Int64.toUInt64 63)).toInt64.toInt
def f_land (x y : Int) : Int := (Int64.ofInt x &&& Int64.ofInt y).toInt
def f_lor (x y : Int) : Int := (Int64.ofInt x ||| Int64.ofInt y).toInt
/-- a frame's numbers: locals (none: unset, or the second half of a long) -/
abbrev sL : Type := List (Option sV)
/-- where a stretch of code ends: at a cut, or at a return (rV (-7): it threw) -/
abbrev sO : Type := (Nat × sL × List sV × sW) ⊕ (Option sV × sW)
abbrev sC : Type := Nat → sW → List sV → Option (Option sV × sW)
/-- an instruction: its place; itself; its length; a target, type or method; small numbers; numbers; a switch's cases -/
abbrev sE : Type := Nat × Instr × Nat × Nat × List Nat × List Int × List (Int × Nat)
/-- a method: how many locals; what it returns (0 nothing, 1 int, 2 long, 3 reference, 4 boolean); its code; its cuts, with the locals that are kept there -/
abbrev sM : Type := Nat × Nat × List sE × List (Nat × List Bool)
def bI {α : Type} (o : Option (Option sV × sW)) (k : Int → sW → Option α) : Option α := match o with
  | some (some (.inl x), w) => k x w
  | _ => none
def bL {α : Type} (o : Option (Option sV × sW)) (k : Int → sW → Option α) : Option α := match o with
  | some (some (.inr (.inl x)), w) => k x w
  | _ => none
def bR {α : Type} (o : Option (Option sV × sW)) (k : Int → sW → Option α) : Option α := match o with
  | some (some (.inr (.inr x)), w) => if 0 ≤ x then k x w else none
  | _ => none
def bN {α : Type} (o : Option (Option sV × sW)) (k : sW → Option α) : Option α := match o with
  | some (none, w) => k w
  | _ => none
def ldI {α : Type} (ls : sL) (i : Nat) (k : Int → Option α) : Option α := match ls[i]? with
  | some (some (.inl x)) => k x
  | _ => none
def ldL {α : Type} (ls : sL) (i : Nat) (k : Int → Option α) : Option α := match ls[i]? with
  | some (some (.inr (.inl x))) => k x
  | _ => none
def ldR {α : Type} (ls : sL) (i : Nat) (k : Int → Option α) : Option α := match ls[i]? with
  | some (some (.inr (.inr x))) => k x
  | _ => none
def isL : Option (Option sV) → Bool
  | some (some (.inr (.inl _))) => true
  | _ => false
def isLp (ls : sL) : Nat → Bool
  | 0 => false
  | j + 1 => isL ls[j]?
def st1 {α : Type} (ls : sL) (i : Nat) (v : sV) (k : sL → Option α) : Option α := bif Nat.blt i ls.length && !isLp ls i then k (ls.set i (some v)) else none
def st2 {α : Type} (ls : sL) (i : Nat) (v : sV) (k : sL → Option α) : Option α := bif Nat.blt (i + 1) ls.length && !isLp ls i then k ((ls.set i (some v)).set (i + 1) none) else none
def mkV : Nat → Int → sV
  | 0, g => .inl g
  | 1, g => .inr (.inl g)
  | 2, g => .inr (.inr g)
  | _, g => .inl g
def swi {α : Type} (x : Int) (d : Nat) (k : Nat → Option α) : List (Int × Nat) → Option α
  | [] => k d
  | (c, t) :: r => if x = c then k t else swi x d k r
def catS : sV → Nat
  | .inr (.inl _) => 2
  | _ => 1
def catSum : List sV → Nat
  | [] => 0
  | v :: r => catS v + catSum r
/-- the call itself, by what the method returns -/
def cal {α : Type} (C : sC) (mid rty : Nat) (w : sW) (args rest : List sV) (k : List sV → sW → Option α) : Option α :=
  bif Nat.ble (catSum rest) 8 then
    (match rty with
    | 0 => bN (C mid w args) (fun w' => k rest w')
    | 2 => bL (C mid w args) (fun x w' => k (.inr (.inl x) :: rest) w')
    | 3 => bR (C mid w args) (fun x w' => k (.inr (.inr x) :: rest) w')
    | _ => bI (C mid w args) (fun x w' => k (.inl x :: rest) w'))
  else none
def popN : Nat → List sV → List sV → Option (List sV × List sV)
  | 0, acc, st => some (acc, st)
  | n + 1, acc, v :: st => popN n (v :: acc) st
  | _ + 1, _, [] => none
/-- a new world gets a name -/
def wl {α : Type} (w : sW) (k : sW → α) : α := k w
def cmpL (x y : Int) : Int := if x < y then -1 else if x = y then 0 else 1
/-- one instruction, with what comes behind it -/
def sx {α : Type} (C : sC) (ret : Nat) (e : Instr) (tg : Nat) (nn : List Nat) (ax : List Int) (sw : List (Int × Nat)) (pc : Nat) (ls : sL) (st : List sV) (w : sW) (kr : Option sV → sW → Option α) (k : Nat → sL → List sV → sW → Option α) : Option α :=
  match e with
  | .iconst n => k (pc + 1) ls (.inl n :: st) w
  | .bipush n => k (pc + 2) ls (.inl n :: st) w
  | .sipush n => k (pc + 3) ls (.inl n :: st) w
  | .lconst _ => (match ax with
    | [x] => k (pc + 1) ls (.inr (.inl x) :: st) w
    | _ => none)
  | .ldc _ => (match ax with
    | [x] => k (pc + 2) ls (.inl x :: st) w
    | _ => none)
  | .ldc_w _ => (match ax with
    | [x] => k (pc + 3) ls (.inl x :: st) w
    | _ => none)
  | .ldc2_w _ => (match ax with
    | [x] => k (pc + 3) ls (.inr (.inl x) :: st) w
    | _ => none)
  | .aconst_null => k (pc + 1) ls (.inr (.inr 0) :: st) w
  | .iload _ => ldI ls tg (fun x => k (pc + 2) ls (.inl x :: st) w)
  | .iload_n _ => ldI ls tg (fun x => k (pc + 1) ls (.inl x :: st) w)
  | .lload _ => ldL ls tg (fun x => k (pc + 2) ls (.inr (.inl x) :: st) w)
  | .lload_n _ => ldL ls tg (fun x => k (pc + 1) ls (.inr (.inl x) :: st) w)
  | .aload _ => ldR ls tg (fun x => k (pc + 2) ls (.inr (.inr x) :: st) w)
  | .aload_n _ => ldR ls tg (fun x => k (pc + 1) ls (.inr (.inr x) :: st) w)
  | .istore _ => (match st with
    | .inl x :: st => st1 ls tg (.inl x) (fun ls => k (pc + 2) ls st w)
    | _ => none)
  | .istore_n _ => (match st with
    | .inl x :: st => st1 ls tg (.inl x) (fun ls => k (pc + 1) ls st w)
    | _ => none)
  | .lstore _ => (match st with
    | .inr (.inl x) :: st => st2 ls tg (.inr (.inl x)) (fun ls => k (pc + 2) ls st w)
    | _ => none)
  | .lstore_n _ => (match st with
    | .inr (.inl x) :: st => st2 ls tg (.inr (.inl x)) (fun ls => k (pc + 1) ls st w)
    | _ => none)
  | .astore _ => (match st with
    | .inr (.inr x) :: st => st1 ls tg (.inr (.inr x)) (fun ls => k (pc + 2) ls st w)
    | _ => none)
  | .astore_n _ => (match st with
    | .inr (.inr x) :: st => st1 ls tg (.inr (.inr x)) (fun ls => k (pc + 1) ls st w)
    | _ => none)
  | .iinc _ n => ldI ls tg (fun x => st1 ls tg (.inl (w32 (x + n))) (fun ls => k (pc + 3) ls st w))
  | .iadd => (match st with
    | .inl y :: .inl x :: st => k (pc + 1) ls (.inl (w32 (x + y)) :: st) w
    | _ => none)
  | .isub => (match st with
    | .inl y :: .inl x :: st => k (pc + 1) ls (.inl (w32 (x - y)) :: st) w
    | _ => none)
  | .imul => (match st with
    | .inl y :: .inl x :: st => k (pc + 1) ls (.inl (w32 (x * y)) :: st) w
    | _ => none)
  | .idiv => (match st with
    | .inl y :: .inl x :: st => if y = 0 then none else k (pc + 1) ls (.inl (w32 (Int.tdiv x y)) :: st) w
    | _ => none)
  | .irem => (match st with
    | .inl y :: .inl x :: st => if y = 0 then none else k (pc + 1) ls (.inl (Int.tmod x y) :: st) w
    | _ => none)
  | .ishl => (match st with
    | .inl y :: .inl x :: st => k (pc + 1) ls (.inl (f_ishl x y) :: st) w
    | _ => none)
  | .ishr => (match st with
    | .inl y :: .inl x :: st => k (pc + 1) ls (.inl (f_ishr x y) :: st) w
    | _ => none)
  | .iushr => (match st with
    | .inl y :: .inl x :: st => k (pc + 1) ls (.inl (f_iushr x y) :: st) w
    | _ => none)
  | .iand => (match st with
    | .inl y :: .inl x :: st => k (pc + 1) ls (.inl (f_iand x y) :: st) w
    | _ => none)
  | .ior => (match st with
    | .inl y :: .inl x :: st => k (pc + 1) ls (.inl (f_ior x y) :: st) w
    | _ => none)
  | .ladd => (match st with
    | .inr (.inl y) :: .inr (.inl x) :: st => k (pc + 1) ls (.inr (.inl (w64 (x + y))) :: st) w
    | _ => none)
  | .lsub => (match st with
    | .inr (.inl y) :: .inr (.inl x) :: st => k (pc + 1) ls (.inr (.inl (w64 (x - y))) :: st) w
    | _ => none)
  | .lmul => (match st with
    | .inr (.inl y) :: .inr (.inl x) :: st => k (pc + 1) ls (.inr (.inl (w64 (x * y))) :: st) w
    | _ => none)
  | .ldiv => (match st with
    | .inr (.inl y) :: .inr (.inl x) :: st => if y = 0 then none else k (pc + 1) ls (.inr (.inl (w64 (Int.tdiv x y))) :: st) w
    | _ => none)
  | .lrem => (match st with
    | .inr (.inl y) :: .inr (.inl x) :: st => if y = 0 then none else k (pc + 1) ls (.inr (.inl (Int.tmod x y)) :: st) w
    | _ => none)
  | .land => (match st with
    | .inr (.inl y) :: .inr (.inl x) :: st => k (pc + 1) ls (.inr (.inl (f_land x y)) :: st) w
    | _ => none)
  | .lor => (match st with
    | .inr (.inl y) :: .inr (.inl x) :: st => k (pc + 1) ls (.inr (.inl (f_lor x y)) :: st) w
    | _ => none)
  | .lshl => (match st with
    | .inl y :: .inr (.inl x) :: st => k (pc + 1) ls (.inr (.inl (f_lshl x y)) :: st) w
    | _ => none)
  | .lshr => (match st with
    | .inl y :: .inr (.inl x) :: st => k (pc + 1) ls (.inr (.inl (f_lshr x y)) :: st) w
    | _ => none)
  | .lushr => (match st with
    | .inl y :: .inr (.inl x) :: st => k (pc + 1) ls (.inr (.inl (f_lushr x y)) :: st) w
    | _ => none)
  | .lcmp => (match st with
    | .inr (.inl y) :: .inr (.inl x) :: st => k (pc + 1) ls (.inl (cmpL x y) :: st) w
    | _ => none)
  | .i2l => (match st with
    | .inl x :: st => k (pc + 1) ls (.inr (.inl x) :: st) w
    | _ => none)
  | .l2i => (match st with
    | .inr (.inl x) :: st => k (pc + 1) ls (.inl (w32 x) :: st) w
    | _ => none)
  | .i2b => (match st with
    | .inl x :: st => if -128 ≤ x ∧ x < 128 then k (pc + 1) ls (.inl x :: st) w else none
    | _ => none)
  | .dup => (match st with
    | v :: st => bif Nat.beq (catS v) 1 then k (pc + 1) ls (v :: v :: st) w else none
    | _ => none)
  | .dup2 => (match st with
    | v :: u :: st => bif Nat.beq (catS v) 1 && Nat.beq (catS u) 1 then k (pc + 1) ls (v :: u :: v :: u :: st) w else none
    | _ => none)
  | .pop => (match st with
    | v :: st => bif Nat.beq (catS v) 1 then k (pc + 1) ls st w else none
    | _ => none)
  | .goto _ => k tg ls st w
  | .ifCond .eq _ => (match st with
    | .inl x :: st => if x = 0 then k tg ls st w else k (pc + 3) ls st w
    | _ => none)
  | .ifCond .ne _ => (match st with
    | .inl x :: st => if x = 0 then k (pc + 3) ls st w else k tg ls st w
    | _ => none)
  | .ifCond .lt _ => (match st with
    | .inl x :: st => if x < 0 then k tg ls st w else k (pc + 3) ls st w
    | _ => none)
  | .ifCond .ge _ => (match st with
    | .inl x :: st => if x < 0 then k (pc + 3) ls st w else k tg ls st w
    | _ => none)
  | .ifCond .gt _ => (match st with
    | .inl x :: st => if 0 < x then k tg ls st w else k (pc + 3) ls st w
    | _ => none)
  | .ifCond .le _ => (match st with
    | .inl x :: st => if 0 < x then k (pc + 3) ls st w else k tg ls st w
    | _ => none)
  | .if_icmp .eq _ => (match st with
    | .inl y :: .inl x :: st => if x = y then k tg ls st w else k (pc + 3) ls st w
    | _ => none)
  | .if_icmp .ne _ => (match st with
    | .inl y :: .inl x :: st => if x = y then k (pc + 3) ls st w else k tg ls st w
    | _ => none)
  | .if_icmp .lt _ => (match st with
    | .inl y :: .inl x :: st => if x < y then k tg ls st w else k (pc + 3) ls st w
    | _ => none)
  | .if_icmp .ge _ => (match st with
    | .inl y :: .inl x :: st => if x < y then k (pc + 3) ls st w else k tg ls st w
    | _ => none)
  | .if_icmp .gt _ => (match st with
    | .inl y :: .inl x :: st => if y < x then k tg ls st w else k (pc + 3) ls st w
    | _ => none)
  | .if_icmp .le _ => (match st with
    | .inl y :: .inl x :: st => if y < x then k (pc + 3) ls st w else k tg ls st w
    | _ => none)
  | .ifnull _ => (match st with
    | .inr (.inr r) :: st => if r = 0 then k tg ls st w else k (pc + 3) ls st w
    | _ => none)
  | .ifnonnull _ => (match st with
    | .inr (.inr r) :: st => if r = 0 then k (pc + 3) ls st w else k tg ls st w
    | _ => none)
  | .if_acmp .eq _ => (match st with
    | .inr (.inr y) :: .inr (.inr x) :: st => if x ≤ 23 ∧ y ≤ 23 then (if x = y then k tg ls st w else k (pc + 3) ls st w) else none
    | _ => none)
  | .if_acmp .ne _ => (match st with
    | .inr (.inr y) :: .inr (.inr x) :: st => if x ≤ 23 ∧ y ≤ 23 then (if x = y then k (pc + 3) ls st w else k tg ls st w) else none
    | _ => none)
  | .tableswitch _ _ _ _ => (match st with
    | .inl x :: st => swi x tg (fun t => k t ls st w) sw
    | _ => none)
  | .lookupswitch _ _ => (match st with
    | .inl x :: st => swi x tg (fun t => k t ls st w) sw
    | _ => none)
  | .getfield _ => (match ax, st with
    | [ci, fk], .inr (.inr r) :: st => if kd w r = ci then k (pc + 3) ls (mkV tg (gv w r fk) :: st) w else none
    | _, _ => none)
  | .putfield _ => (match ax, tg, st with
    | [ci, fk], 0, .inl v :: .inr (.inr r) :: st => if kd w r = ci then k (pc + 3) ls st (sv w r fk v) else none
    | [ci, fk], 1, .inr (.inl v) :: .inr (.inr r) :: st => if kd w r = ci then k (pc + 3) ls st (sv w r fk v) else none
    | [ci, fk], 2, .inr (.inr v) :: .inr (.inr r) :: st => if kd w r = ci then k (pc + 3) ls st (sv w r fk v) else none
    | [ci, fk], 3, .inl v :: .inr (.inr r) :: st => if kd w r = ci ∧ (v = 0 ∨ v = 1) then k (pc + 3) ls st (sv w r fk v) else none
    | _, _, _ => none)
  | .getstatic _ => (match ax with
    | [id] => k (pc + 3) ls (.inr (.inr id) :: st) w
    | _ => none)
  | .iaload => (match st with
    | .inl i :: .inr (.inr r) :: st => if kd w r = 20 ∧ 0 ≤ i ∧ i < ln w r then k (pc + 1) ls (.inl (gv w r i) :: st) w else none
    | _ => none)
  | .baload => (match st with
    | .inl i :: .inr (.inr r) :: st => if (kd w r = 21 ∨ kd w r = 23) ∧ 0 ≤ i ∧ i < ln w r then k (pc + 1) ls (.inl (gv w r i) :: st) w else none
    | _ => none)
  | .laload => (match st with
    | .inl i :: .inr (.inr r) :: st => if kd w r = 22 ∧ 0 ≤ i ∧ i < ln w r then k (pc + 1) ls (.inr (.inl (gv w r i)) :: st) w else none
    | _ => none)
  | .aaload => (match st with
    | .inl i :: .inr (.inr r) :: st => if (24 ≤ kd w r ∧ kd w r ≤ 27) ∧ 0 ≤ i ∧ i < ln w r then k (pc + 1) ls (.inr (.inr (gv w r i)) :: st) w else none
    | _ => none)
  | .iastore => (match st with
    | .inl v :: .inl i :: .inr (.inr r) :: st => if (kd w r = 20 ∧ 32 ≤ r) ∧ 0 ≤ i ∧ i < ln w r then k (pc + 1) ls st (sv w r i v) else none
    | _ => none)
  | .bastore => (match st with
    | .inl v :: .inl i :: .inr (.inr r) :: st => if ((kd w r = 21 ∧ -128 ≤ v ∧ v < 128) ∨ (kd w r = 23 ∧ (v = 0 ∨ v = 1))) ∧ 0 ≤ i ∧ i < ln w r then k (pc + 1) ls st (sv w r i v) else none
    | _ => none)
  | .lastore => (match st with
    | .inr (.inl v) :: .inl i :: .inr (.inr r) :: st => if kd w r = 22 ∧ 0 ≤ i ∧ i < ln w r then k (pc + 1) ls st (sv w r i v) else none
    | _ => none)
  | .aastore => (match st with
    | .inr (.inr v) :: .inl i :: .inr (.inr r) :: st => if ((kd w r = 24 ∧ kd w v = 5) ∨ (kd w r = 25 ∧ kd w v = 8) ∨ (kd w r = 26 ∧ kd w v = 7) ∨ (kd w r = 27 ∧ kd w v = 30 ∧ 32 ≤ r)) ∧ 0 ≤ i ∧ i < ln w r then k (pc + 1) ls st (sv w r i v) else none
    | _ => none)
  | .arraylength => (match st with
    | .inr (.inr r) :: st => if 20 ≤ kd w r ∧ kd w r ≤ 27 then k (pc + 1) ls (.inl (ln w r) :: st) w else none
    | _ => none)
  | .new _ => (match ax with
    | [ci] => k (pc + 3) ls (.inr (.inr (nx w)) :: st) (al w ci 0 tg)
    | _ => kr (some (.inr (.inr (-7)))) (bp w 1 tg))
  | .newarray _ => (match ax, st with
    | [kind], .inl n :: st => if 0 ≤ n ∧ n ≤ 100000 then k (pc + 2) ls (.inr (.inr (nx w)) :: st) (al w kind n n.toNat) else none
    | _, _ => none)
  | .anewarray _ => (match ax, st with
    | [kind], .inl n :: st => if 0 ≤ n ∧ n ≤ 100000 then k (pc + 3) ls (.inr (.inr (nx w)) :: st) (al w kind n n.toNat) else none
    | _, _ => none)
  | .invokevirtual _ => (match ax, nn with
    | [ci], [rty, n] => (match popN n [] st with
      | some (as, .inr (.inr r) :: rest) => if kd w r = ci then cal C tg rty w (.inr (.inr r) :: as) rest (fun st w => k (pc + 3) ls st w) else none
      | _ => none)
    | _, _ => none)
  | .invokespecial _ => (match ax, nn with
    | [ci], [n] => (match popN n [] st with
      | some (as, .inr (.inr r) :: rest) => if kd w r = ci then cal C tg 0 w (.inr (.inr r) :: as) rest (fun st w => k (pc + 3) ls st w) else none
      | _ => none)
    | [ci], [] => (match st with
      | .inr (.inr r) :: st => if kd w r = ci then k (pc + 3) ls st w else none
      | _ => none)
    | _, _ => none)
  | .invokestatic _ => (match nn with
    | [rty, n] => (match popN n [] st with
      | some (as, rest) => cal C tg rty w as rest (fun st w => k (pc + 3) ls st w)
      | _ => none)
    | [0] => (match st with
      | .inl n :: .inl dp :: .inr (.inr d) :: .inl sp :: .inr (.inr s) :: st => if ((kd w s = 20 ∧ kd w d = 20) ∨ (kd w s = 21 ∧ kd w d = 21)) ∧ 32 ≤ s ∧ 32 ≤ d ∧ 0 ≤ sp ∧ 0 ≤ dp ∧ 0 ≤ n ∧ sp + n ≤ ln w s ∧ dp + n ≤ ln w d then k (pc + 3) ls st (cp w s sp d dp n) else none
      | _ => none)
    | [1] => (match st with
      | .inl y :: .inl x :: st => k (pc + 3) ls (.inl (if x < y then y else x) :: st) w
      | _ => none)
    | [2] => (match st with
      | .inl y :: .inl x :: st => k (pc + 3) ls (.inl (if y < x then y else x) :: st) w
      | _ => none)
    | _ => none)
  | .ireturn => (match st with
    | [.inl x] => bif Nat.beq ret 4 then (if x = 0 ∨ x = 1 then kr (some (.inl x)) w else none) else kr (some (.inl x)) w
    | _ => none)
  | .lreturn => (match st with
    | [.inr (.inl x)] => kr (some (.inr (.inl x))) w
    | _ => none)
  | .areturn => (match st with
    | [.inr (.inr x)] => kr (some (.inr (.inr x))) w
    | _ => none)
  | .return_ => kr none w
  | _ => none
def ft : List sE → Nat → Option sE
  | [], _ => none
  | e :: r, pc => bif Nat.beq e.1 pc then some e else ft r pc
def fm : List (Nat × List Bool) → Nat → Option (List Bool)
  | [], _ => none
  | a :: r, n => bif Nat.beq a.1 n then some a.2 else fm r n
def mask : List Bool → sL → sL
  | true :: r, v :: l => v :: mask r l
  | false :: r, _ :: l => none :: mask r l
  | _, _ => []
def cutO (c : Option (List Bool)) (pc : Nat) (ls : sL) (st : List sV) (w : sW) (k : Option sO) : Option sO := match c with
  | some b => some (.inl (pc, mask b ls, st, w))
  | none => k
/-- a stretch of code, to the next cut -/
def sg (C : sC) (M : sM) : Nat → Nat → sL → List sV → sW → Option sO
  | 0, _, _, _, _ => none
  | n + 1, pc, ls, st, w => match ft M.2.2.1 pc with
    | none => none
    | some e => sx C M.2.1 e.2.1 e.2.2.2.1 e.2.2.2.2.1 e.2.2.2.2.2.1 e.2.2.2.2.2.2 pc ls st w (fun v w => some (.inr (v, w))) (fun pc ls st w => cutO (fm M.2.2.2 pc) pc ls st w (sg C M n pc ls st w))
/-- stretch by stretch -/
def itr (C : sC) (M : sM) : Nat → Nat × sL × List sV × sW → Option (Option sV × sW)
  | 0, _ => none
  | n + 1, c => match sg C M 2000 c.1 c.2.1 c.2.2.1 c.2.2.2 with
    | some (.inr r) => some r
    | some (.inl c') => itr C M n c'
    | none => none
def Rn (C : sC) (M : sM) (c : Nat × sL × List sV × sW) (r : Option sV × sW) : Prop := ∃ n, itr C M n c = some r
theorem Rn.ret {C : sC} {M : sM} {pc : Nat} {ls : sL} {st : List sV} {w : sW} {r : Option sV × sW} (h : sg C M 2000 pc ls st w = some (.inr r)) : Rn C M (pc, ls, st, w) r := ⟨1, by simp [itr, h]⟩
theorem Rn.cut {C : sC} {M : sM} {pc : Nat} {ls : sL} {st : List sV} {w : sW} {c' : Nat × sL × List sV × sW} {r : Option sV × sW} (h : sg C M 2000 pc ls st w = some (.inl c')) (k : Rn C M c' r) : Rn C M (pc, ls, st, w) r := by
  obtain ⟨n, hn⟩ := k
  exact ⟨n + 1, by simp [itr, h, hn]⟩
theorem itr_mono {C : sC} {M : sM} : ∀ (n : Nat) (c : Nat × sL × List sV × sW) (r : Option sV × sW) (k : Nat), itr C M n c = some r → itr C M (n + k) c = some r
  | 0, c, r, k, h => by simp [itr] at h
  | n + 1, c, r, k, h => by
    rw [show n + 1 + k = (n + k) + 1 by omega]
    simp only [itr] at h ⊢
    cases hs : sg C M 2000 c.1 c.2.1 c.2.2.1 c.2.2.2 with
    | none => rw [hs] at h; simp at h
    | some o =>
      rw [hs] at h
      cases o with
      | inr r' => exact h
      | inl c' => exact itr_mono n c' r k h
theorem Rn.det {C : sC} {M : sM} {c : Nat × sL × List sV × sW} {r r' : Option sV × sW} (h : Rn C M c r) (h' : Rn C M c r') : r = r' := by
  obtain ⟨n, hn⟩ := h
  obtain ⟨k, hk⟩ := h'
  have h1 := itr_mono n c r k hn
  have h2 := itr_mono k c r' n hk
  rw [Nat.add_comm] at h2
  exact Option.some.inj (h1.symm.trans h2)
def slot2 : List sV → sL
  | [] => []
  | .inr (.inl x) :: r => some (.inr (.inl x)) :: none :: slot2 r
  | v :: r => some v :: slot2 r
def ent (n : Nat) (as : List sV) : sL := slot2 as ++ List.replicate (n - (slot2 as).length) none
noncomputable def runs (C : sC) (M : sM) (w : sW) (as : List sV) : Option (Option sV × sW) := @dite _ (∃ r, Rn C M (0, ent M.1 as, [], w) r) (Classical.propDecidable _) (fun h => some h.choose) (fun _ => none)
theorem runs_iff {C : sC} {M : sM} {w : sW} {as : List sV} {r : Option sV × sW} : runs C M w as = some r ↔ Rn C M (0, ent M.1 as, [], w) r := by
  unfold runs
  constructor
  · intro h
    by_cases q : ∃ r, Rn C M (0, ent M.1 as, [], w) r
    · rw [dif_pos q] at h
      have := q.choose_spec
      rw [Option.some.inj h] at this
      exact this
    · rw [dif_neg q] at h
      cases h
  · intro h
    have q : ∃ r, Rn C M (0, ent M.1 as, [], w) r := ⟨r, h⟩
    rw [dif_pos q, Rn.det q.choose_spec h]
end
section
/-! ===== the methods of the claim as tables of the small machine (printed by wip/whole/tabs.py) ===== -/
def mX0_init : sM := (1, 0, [
  (0, .aload_n 0, 1, 0, [], [], []),
  (1, .invokespecial 3, 3, 0, [], [1], []),
  (4, .aload_n 0, 1, 0, [], [], []),
  (5, .bipush 40, 2, 0, [], [], []),
  (7, .anewarray 9, 3, 0, [], [27], []),
  (10, .putfield 11, 3, 2, [], [1, 0], []),
  (13, .aload_n 0, 1, 0, [], [], []),
  (14, .bipush 40, 2, 0, [], [], []),
  (16, .newarray .int, 2, 0, [], [20], []),
  (18, .putfield 17, 3, 2, [], [1, 1], []),
  (21, .aload_n 0, 1, 0, [], [], []),
  (22, .bipush 40, 2, 0, [], [], []),
  (24, .newarray .int, 2, 0, [], [20], []),
  (26, .putfield 21, 3, 2, [], [1, 2], []),
  (29, .aload_n 0, 1, 0, [], [], []),
  (30, .bipush 40, 2, 0, [], [], []),
  (32, .newarray .int, 2, 0, [], [20], []),
  (34, .putfield 24, 3, 2, [], [1, 3], []),
  (37, .return_, 1, 0, [], [], [])], [])
def mX0_readLines : sM := (4, 0, [
  (0, .aload_n 0, 1, 0, [], [], []),
  (1, .iconst 0, 1, 0, [], [], []),
  (2, .putfield 27, 3, 0, [], [1, 4], []),
  (5, .iconst 0, 1, 0, [], [], []),
  (6, .istore_n 3, 1, 3, [], [], []),
  (7, .iload_n 3, 1, 3, [], [], []),
  (8, .bipush 40, 2, 0, [], [], []),
  (10, .if_icmp .gt 81, 3, 91, [], [], []),
  (13, .aload_n 1, 1, 1, [], [], []),
  (14, .invokevirtual 31, 3, 19, [4, 0], [4], []),
  (17, .ifCond .eq 74, 3, 91, [], [], []),
  (20, .aload_n 1, 1, 1, [], [], []),
  (21, .getfield 37, 3, 2, [], [4, 9], []),
  (24, .ifnull 14, 3, 38, [], [], []),
  (27, .aload_n 1, 1, 1, [], [], []),
  (28, .getfield 37, 3, 2, [], [4, 9], []),
  (31, .getfield 41, 3, 0, [], [30, 1], []),
  (34, .iconst 1, 1, 0, [], [], []),
  (35, .if_icmp .eq 11, 3, 46, [], [], []),
  (38, .aload_n 1, 1, 1, [], [], []),
  (39, .iconst 1, 1, 0, [], [], []),
  (40, .invokevirtual 44, 3, 20, [0, 1], [4], []),
  (43, .goto 42, 3, 85, [], [], []),
  (46, .aload_n 0, 1, 0, [], [], []),
  (47, .getfield 27, 3, 0, [], [1, 4], []),
  (50, .bipush 40, 2, 0, [], [], []),
  (52, .if_icmp .lt 11, 3, 63, [], [], []),
  (55, .aload_n 1, 1, 1, [], [], []),
  (56, .iconst 4, 1, 0, [], [], []),
  (57, .invokevirtual 44, 3, 20, [0, 1], [4], []),
  (60, .goto 25, 3, 85, [], [], []),
  (63, .aload_n 0, 1, 0, [], [], []),
  (64, .aload_n 1, 1, 1, [], [], []),
  (65, .aload_n 2, 1, 2, [], [], []),
  (66, .invokevirtual 48, 3, 2, [0, 2], [1], []),
  (69, .aload_n 1, 1, 1, [], [], []),
  (70, .bipush 59, 2, 0, [], [], []),
  (72, .invokevirtual 52, 3, 23, [0, 1], [4], []),
  (75, .aload_n 0, 1, 0, [], [], []),
  (76, .dup, 1, 0, [], [], []),
  (77, .getfield 27, 3, 0, [], [1, 4], []),
  (80, .iconst 1, 1, 0, [], [], []),
  (81, .iadd, 1, 0, [], [], []),
  (82, .putfield 27, 3, 0, [], [1, 4], []),
  (85, .iinc 3 1, 3, 3, [], [], []),
  (88, .goto (-81), 3, 7, [], [], []),
  (91, .return_, 1, 0, [], [], [])], [(7, [true, true, true, true])])
def mX0_readLine : sM := (7, 0, [
  (0, .aload_n 1, 1, 1, [], [], []),
  (1, .getfield 37, 3, 2, [], [4, 9], []),
  (4, .astore_n 3, 1, 3, [], [], []),
  (5, .iconst 0, 1, 0, [], [], []),
  (6, .istore 4, 2, 4, [], [], []),
  (8, .iconst 0, 1, 0, [], [], []),
  (9, .istore 5, 2, 5, [], [], []),
  (11, .iconst 0, 1, 0, [], [], []),
  (12, .istore 6, 2, 6, [], [], []),
  (14, .aload_n 1, 1, 1, [], [], []),
  (15, .invokevirtual 55, 3, 16, [0, 0], [4], []),
  (18, .aload_n 3, 1, 3, [], [], []),
  (19, .getstatic 58, 3, 0, [], [10], []),
  (22, .if_acmp .eq 10, 3, 32, [], [], []),
  (25, .aload_n 3, 1, 3, [], [], []),
  (26, .getstatic 61, 3, 0, [], [11], []),
  (29, .if_acmp .ne 43, 3, 72, [], [], []),
  (32, .aload_n 1, 1, 1, [], [], []),
  (33, .iconst 0, 1, 0, [], [], []),
  (34, .sipush 999, 3, 0, [], [], []),
  (37, .invokevirtual 64, 3, 25, [1, 2], [4], []),
  (40, .istore 4, 2, 4, [], [], []),
  (42, .aload_n 3, 1, 3, [], [], []),
  (43, .getstatic 58, 3, 0, [], [10], []),
  (46, .if_acmp .ne 13, 3, 59, [], [], []),
  (49, .aload_n 1, 1, 1, [], [], []),
  (50, .iconst 0, 1, 0, [], [], []),
  (51, .bipush 7, 2, 0, [], [], []),
  (53, .invokevirtual 64, 3, 25, [1, 2], [4], []),
  (56, .goto 11, 3, 67, [], [], []),
  (59, .aload_n 1, 1, 1, [], [], []),
  (60, .iconst 1, 1, 0, [], [], []),
  (61, .sipush 600, 3, 0, [], [], []),
  (64, .invokevirtual 64, 3, 25, [1, 2], [4], []),
  (67, .istore 5, 2, 5, [], [], []),
  (69, .goto 58, 3, 127, [], [], []),
  (72, .aload_n 3, 1, 3, [], [], []),
  (73, .getstatic 68, 3, 0, [], [8], []),
  (76, .if_acmp .ne 23, 3, 99, [], [], []),
  (79, .aload_n 1, 1, 1, [], [], []),
  (80, .aload_n 2, 1, 2, [], [], []),
  (81, .iconst (-1), 1, 0, [], [], []),
  (82, .invokevirtual 71, 3, 26, [1, 2], [4], []),
  (85, .istore 4, 2, 4, [], [], []),
  (87, .aload_n 1, 1, 1, [], [], []),
  (88, .aload_n 2, 1, 2, [], [], []),
  (89, .iload 4, 2, 4, [], [], []),
  (91, .invokevirtual 71, 3, 26, [1, 2], [4], []),
  (94, .istore 5, 2, 5, [], [], []),
  (96, .goto 31, 3, 127, [], [], []),
  (99, .aload_n 1, 1, 1, [], [], []),
  (100, .aload_n 2, 1, 2, [], [], []),
  (101, .iconst (-1), 1, 0, [], [], []),
  (102, .invokevirtual 71, 3, 26, [1, 2], [4], []),
  (105, .istore 4, 2, 4, [], [], []),
  (107, .aload_n 1, 1, 1, [], [], []),
  (108, .iconst 0, 1, 0, [], [], []),
  (109, .sipush 999, 3, 0, [], [], []),
  (112, .invokevirtual 64, 3, 25, [1, 2], [4], []),
  (115, .istore 5, 2, 5, [], [], []),
  (117, .aload_n 1, 1, 1, [], [], []),
  (118, .aload_n 2, 1, 2, [], [], []),
  (119, .aload_n 3, 1, 3, [], [], []),
  (120, .iload 4, 2, 4, [], [], []),
  (122, .invokestatic 75, 3, 3, [1, 4], [], []),
  (125, .istore 6, 2, 6, [], [], []),
  (127, .aload_n 0, 1, 0, [], [], []),
  (128, .getfield 11, 3, 2, [], [1, 0], []),
  (131, .aload_n 0, 1, 0, [], [], []),
  (132, .getfield 27, 3, 0, [], [1, 4], []),
  (135, .aload_n 3, 1, 3, [], [], []),
  (136, .aastore, 1, 0, [], [], []),
  (137, .aload_n 0, 1, 0, [], [], []),
  (138, .getfield 17, 3, 2, [], [1, 1], []),
  (141, .aload_n 0, 1, 0, [], [], []),
  (142, .getfield 27, 3, 0, [], [1, 4], []),
  (145, .iload 4, 2, 4, [], [], []),
  (147, .iastore, 1, 0, [], [], []),
  (148, .aload_n 0, 1, 0, [], [], []),
  (149, .getfield 21, 3, 2, [], [1, 2], []),
  (152, .aload_n 0, 1, 0, [], [], []),
  (153, .getfield 27, 3, 0, [], [1, 4], []),
  (156, .iload 5, 2, 5, [], [], []),
  (158, .iastore, 1, 0, [], [], []),
  (159, .aload_n 0, 1, 0, [], [], []),
  (160, .getfield 24, 3, 2, [], [1, 3], []),
  (163, .aload_n 0, 1, 0, [], [], []),
  (164, .getfield 27, 3, 0, [], [1, 4], []),
  (167, .iload 6, 2, 6, [], [], []),
  (169, .iastore, 1, 0, [], [], []),
  (170, .return_, 1, 0, [], [], [])], [(127, [true, false, false, true, true, true, true])])
def mX0_readThird : sM := (4, 1, [
  (0, .aload_n 2, 1, 2, [], [], []),
  (1, .getstatic 79, 3, 0, [], [9], []),
  (4, .if_acmp .ne 10, 3, 14, [], [], []),
  (7, .aload_n 0, 1, 0, [], [], []),
  (8, .aload_n 1, 1, 1, [], [], []),
  (9, .iload_n 3, 1, 3, [], [], []),
  (10, .invokevirtual 71, 3, 26, [1, 2], [4], []),
  (13, .ireturn, 1, 0, [], [], []),
  (14, .aload_n 2, 1, 2, [], [], []),
  (15, .getstatic 82, 3, 0, [], [4], []),
  (18, .if_acmp .eq 10, 3, 28, [], [], []),
  (21, .aload_n 2, 1, 2, [], [], []),
  (22, .getstatic 85, 3, 0, [], [5], []),
  (25, .if_acmp .ne 12, 3, 37, [], [], []),
  (28, .aload_n 0, 1, 0, [], [], []),
  (29, .iconst 0, 1, 0, [], [], []),
  (30, .iconst 1, 1, 0, [], [], []),
  (31, .invokevirtual 64, 3, 25, [1, 2], [4], []),
  (34, .goto 11, 3, 45, [], [], []),
  (37, .aload_n 0, 1, 0, [], [], []),
  (38, .iconst 1, 1, 0, [], [], []),
  (39, .sipush 600, 3, 0, [], [], []),
  (42, .invokevirtual 64, 3, 25, [1, 2], [4], []),
  (45, .ireturn, 1, 0, [], [], [])], [])
def mX0_liveOn : sM := (5, 1, [
  (0, .aload_n 0, 1, 0, [], [], []),
  (1, .iconst 0, 1, 0, [], [], []),
  (2, .putfield 88, 3, 0, [], [1, 5], []),
  (5, .iconst 0, 1, 0, [], [], []),
  (6, .istore_n 2, 1, 2, [], [], []),
  (7, .iload_n 2, 1, 2, [], [], []),
  (8, .aload_n 0, 1, 0, [], [], []),
  (9, .getfield 27, 3, 0, [], [1, 4], []),
  (12, .if_icmp .ge 94, 3, 106, [], [], []),
  (15, .iload_n 2, 1, 2, [], [], []),
  (16, .bipush 40, 2, 0, [], [], []),
  (18, .if_icmp .ge 88, 3, 106, [], [], []),
  (21, .aload_n 0, 1, 0, [], [], []),
  (22, .getfield 11, 3, 2, [], [1, 0], []),
  (25, .iload_n 2, 1, 2, [], [], []),
  (26, .aaload, 1, 0, [], [], []),
  (27, .astore_n 3, 1, 3, [], [], []),
  (28, .aload_n 3, 1, 3, [], [], []),
  (29, .ifnonnull 5, 3, 34, [], [], []),
  (32, .iload_n 2, 1, 2, [], [], []),
  (33, .ireturn, 1, 0, [], [], []),
  (34, .aload_n 1, 1, 1, [], [], []),
  (35, .aload_n 3, 1, 3, [], [], []),
  (36, .aload_n 0, 1, 0, [], [], []),
  (37, .getfield 17, 3, 2, [], [1, 1], []),
  (40, .iload_n 2, 1, 2, [], [], []),
  (41, .iaload, 1, 0, [], [], []),
  (42, .aload_n 0, 1, 0, [], [], []),
  (43, .getfield 21, 3, 2, [], [1, 2], []),
  (46, .iload_n 2, 1, 2, [], [], []),
  (47, .iaload, 1, 0, [], [], []),
  (48, .aload_n 0, 1, 0, [], [], []),
  (49, .getfield 24, 3, 2, [], [1, 3], []),
  (52, .iload_n 2, 1, 2, [], [], []),
  (53, .iaload, 1, 0, [], [], []),
  (54, .invokevirtual 91, 3, 86, [1, 4], [8], []),
  (57, .istore 4, 2, 4, [], [], []),
  (59, .iload 4, 2, 4, [], [], []),
  (61, .ifCond .eq 16, 3, 77, [], [], []),
  (64, .aload_n 0, 1, 0, [], [], []),
  (65, .aload_n 3, 1, 3, [], [], []),
  (66, .getfield 97, 3, 0, [], [30, 2], []),
  (69, .iload 4, 2, 4, [], [], []),
  (71, .iadd, 1, 0, [], [], []),
  (72, .putfield 88, 3, 0, [], [1, 5], []),
  (75, .iload_n 2, 1, 2, [], [], []),
  (76, .ireturn, 1, 0, [], [], []),
  (77, .aload_n 1, 1, 1, [], [], []),
  (78, .aload_n 3, 1, 3, [], [], []),
  (79, .aload_n 0, 1, 0, [], [], []),
  (80, .getfield 17, 3, 2, [], [1, 1], []),
  (83, .iload_n 2, 1, 2, [], [], []),
  (84, .iaload, 1, 0, [], [], []),
  (85, .aload_n 0, 1, 0, [], [], []),
  (86, .getfield 21, 3, 2, [], [1, 2], []),
  (89, .iload_n 2, 1, 2, [], [], []),
  (90, .iaload, 1, 0, [], [], []),
  (91, .aload_n 0, 1, 0, [], [], []),
  (92, .getfield 24, 3, 2, [], [1, 3], []),
  (95, .iload_n 2, 1, 2, [], [], []),
  (96, .iaload, 1, 0, [], [], []),
  (97, .invokevirtual 100, 3, 88, [0, 4], [8], []),
  (100, .iinc 2 1, 3, 2, [], [], []),
  (103, .goto (-96), 3, 7, [], [], []),
  (106, .aload_n 0, 1, 0, [], [], []),
  (107, .getfield 27, 3, 0, [], [1, 4], []),
  (110, .ireturn, 1, 0, [], [], [])], [(7, [true, true, true, false, false])])
def mX1_init : sM := (2, 0, [
  (0, .aload_n 0, 1, 0, [], [], []),
  (1, .invokespecial 1, 3, 0, [], [2], []),
  (4, .aload_n 0, 1, 0, [], [], []),
  (5, .iload_n 1, 1, 1, [], [], []),
  (6, .putfield 7, 3, 0, [], [2, 0], []),
  (9, .return_, 1, 0, [], [], [])], [])
def mX1_draw : sM := (2, 1, [
  (0, .aload_n 0, 1, 0, [], [], []),
  (1, .aload_n 0, 1, 0, [], [], []),
  (2, .getfield 7, 3, 0, [], [2, 0], []),
  (5, .ldc 13, 2, 0, [], [1103515245], []),
  (7, .imul, 1, 0, [], [], []),
  (8, .sipush 12345, 3, 0, [], [], []),
  (11, .iadd, 1, 0, [], [], []),
  (12, .putfield 7, 3, 0, [], [2, 0], []),
  (15, .iload_n 1, 1, 1, [], [], []),
  (16, .iconst 1, 1, 0, [], [], []),
  (17, .if_icmp .ge 7, 3, 24, [], [], []),
  (20, .iconst 0, 1, 0, [], [], []),
  (21, .goto 12, 3, 33, [], [], []),
  (24, .aload_n 0, 1, 0, [], [], []),
  (25, .getfield 7, 3, 0, [], [2, 0], []),
  (28, .bipush 8, 2, 0, [], [], []),
  (30, .iushr, 1, 0, [], [], []),
  (31, .iload_n 1, 1, 1, [], [], []),
  (32, .irem, 1, 0, [], [], []),
  (33, .ireturn, 1, 0, [], [], [])], [])
def mX1_deedOn : sM := (7, 4, [
  (0, .aload_n 1, 1, 1, [], [], []),
  (1, .getfield 14, 3, 0, [], [8, 3], []),
  (4, .ifCond .ne 5, 3, 9, [], [], []),
  (7, .iconst 0, 1, 0, [], [], []),
  (8, .ireturn, 1, 0, [], [], []),
  (9, .aload_n 0, 1, 0, [], [], []),
  (10, .bipush 8, 2, 0, [], [], []),
  (12, .invokevirtual 19, 3, 6, [1, 1], [2], []),
  (15, .istore_n 2, 1, 2, [], [], []),
  (16, .aload_n 0, 1, 0, [], [], []),
  (17, .aload_n 1, 1, 1, [], [], []),
  (18, .getfield 14, 3, 0, [], [8, 3], []),
  (21, .invokevirtual 19, 3, 6, [1, 1], [2], []),
  (24, .istore_n 3, 1, 3, [], [], []),
  (25, .aload_n 1, 1, 1, [], [], []),
  (26, .iload_n 3, 1, 3, [], [], []),
  (27, .invokevirtual 23, 3, 77, [3, 1], [8], []),
  (30, .astore 4, 2, 4, [], [], []),
  (32, .aload_n 0, 1, 0, [], [], []),
  (33, .aload 4, 2, 4, [], [], []),
  (35, .ifnonnull 7, 3, 42, [], [], []),
  (38, .iconst 1, 1, 0, [], [], []),
  (39, .goto 10, 3, 49, [], [], []),
  (42, .aload 4, 2, 4, [], [], []),
  (44, .getfield 27, 3, 0, [], [5, 2], []),
  (47, .iconst 1, 1, 0, [], [], []),
  (48, .iadd, 1, 0, [], [], []),
  (49, .invokevirtual 19, 3, 6, [1, 1], [2], []),
  (52, .istore 5, 2, 5, [], [], []),
  (54, .iload_n 2, 1, 2, [], [], []),
  (55, .tableswitch 144 3 7 #[33, 52, 52, 71, 107], 33, 199, [], [], [(3, 88), (4, 107), (5, 107), (6, 126), (7, 162)]),
  (88, .aload_n 1, 1, 1, [], [], []),
  (89, .getstatic 32, 3, 0, [], [6], []),
  (92, .iload_n 3, 1, 3, [], [], []),
  (93, .iload 5, 2, 5, [], [], []),
  (95, .aload_n 0, 1, 0, [], [], []),
  (96, .bipush 8, 2, 0, [], [], []),
  (98, .invokevirtual 19, 3, 6, [1, 1], [2], []),
  (101, .iconst 1, 1, 0, [], [], []),
  (102, .iadd, 1, 0, [], [], []),
  (103, .invokestatic 38, 3, 8, [4, 5], [], []),
  (106, .ireturn, 1, 0, [], [], []),
  (107, .aload_n 1, 1, 1, [], [], []),
  (108, .getstatic 42, 3, 0, [], [7], []),
  (111, .iload_n 3, 1, 3, [], [], []),
  (112, .iload 5, 2, 5, [], [], []),
  (114, .aload_n 0, 1, 0, [], [], []),
  (115, .bipush 40, 2, 0, [], [], []),
  (117, .invokevirtual 19, 3, 6, [1, 1], [2], []),
  (120, .iconst 1, 1, 0, [], [], []),
  (121, .iadd, 1, 0, [], [], []),
  (122, .invokestatic 38, 3, 8, [4, 5], [], []),
  (125, .ireturn, 1, 0, [], [], []),
  (126, .aload_n 0, 1, 0, [], [], []),
  (127, .aload_n 1, 1, 1, [], [], []),
  (128, .getfield 14, 3, 0, [], [8, 3], []),
  (131, .invokevirtual 19, 3, 6, [1, 1], [2], []),
  (134, .istore 6, 2, 6, [], [], []),
  (136, .iload 6, 2, 6, [], [], []),
  (138, .iload_n 3, 1, 3, [], [], []),
  (139, .if_icmp .eq 21, 3, 160, [], [], []),
  (142, .aload_n 1, 1, 1, [], [], []),
  (143, .getstatic 45, 3, 0, [], [8], []),
  (146, .iload_n 3, 1, 3, [], [], []),
  (147, .iload 6, 2, 6, [], [], []),
  (149, .iconst 0, 1, 0, [], [], []),
  (150, .invokestatic 38, 3, 8, [4, 5], [], []),
  (153, .ifCond .eq 7, 3, 160, [], [], []),
  (156, .iconst 1, 1, 0, [], [], []),
  (157, .goto 4, 3, 161, [], [], []),
  (160, .iconst 0, 1, 0, [], [], []),
  (161, .ireturn, 1, 0, [], [], []),
  (162, .aload_n 0, 1, 0, [], [], []),
  (163, .aload_n 1, 1, 1, [], [], []),
  (164, .getfield 14, 3, 0, [], [8, 3], []),
  (167, .invokevirtual 19, 3, 6, [1, 1], [2], []),
  (170, .istore 6, 2, 6, [], [], []),
  (172, .iload 6, 2, 6, [], [], []),
  (174, .iload_n 3, 1, 3, [], [], []),
  (175, .if_icmp .eq 22, 3, 197, [], [], []),
  (178, .aload_n 1, 1, 1, [], [], []),
  (179, .getstatic 48, 3, 0, [], [9], []),
  (182, .iload_n 3, 1, 3, [], [], []),
  (183, .iload 5, 2, 5, [], [], []),
  (185, .iload 6, 2, 6, [], [], []),
  (187, .invokestatic 38, 3, 8, [4, 5], [], []),
  (190, .ifCond .eq 7, 3, 197, [], [], []),
  (193, .iconst 1, 1, 0, [], [], []),
  (194, .goto 4, 3, 198, [], [], []),
  (197, .iconst 0, 1, 0, [], [], []),
  (198, .ireturn, 1, 0, [], [], []),
  (199, .aload_n 1, 1, 1, [], [], []),
  (200, .getstatic 51, 3, 0, [], [4], []),
  (203, .iload_n 3, 1, 3, [], [], []),
  (204, .iload 5, 2, 5, [], [], []),
  (206, .aload_n 0, 1, 0, [], [], []),
  (207, .iconst 2, 1, 0, [], [], []),
  (208, .invokevirtual 19, 3, 6, [1, 1], [2], []),
  (211, .invokestatic 38, 3, 8, [4, 5], [], []),
  (214, .ireturn, 1, 0, [], [], [])], [])
def mX1_done : sM := (5, 4, [
  (0, .aload_n 0, 1, 0, [], [], []),
  (1, .aload_n 1, 1, 1, [], [], []),
  (2, .iload_n 2, 1, 2, [], [], []),
  (3, .iload_n 3, 1, 3, [], [], []),
  (4, .iload 4, 2, 4, [], [], []),
  (6, .invokevirtual 54, 3, 86, [1, 4], [8], []),
  (9, .ifCond .eq 5, 3, 14, [], [], []),
  (12, .iconst 0, 1, 0, [], [], []),
  (13, .ireturn, 1, 0, [], [], []),
  (14, .aload_n 0, 1, 0, [], [], []),
  (15, .aload_n 1, 1, 1, [], [], []),
  (16, .iload_n 2, 1, 2, [], [], []),
  (17, .iload_n 3, 1, 3, [], [], []),
  (18, .iload 4, 2, 4, [], [], []),
  (20, .invokevirtual 58, 3, 88, [0, 4], [8], []),
  (23, .iconst 1, 1, 0, [], [], []),
  (24, .ireturn, 1, 0, [], [], [])], [])
def mX2_asBits : sM := (14, 2, [
  (0, .lload_n 0, 1, 0, [], [], []),
  (1, .lconst 0, 1, 0, [], [0], []),
  (2, .lcmp, 1, 0, [], [], []),
  (3, .ifCond .le 9, 3, 12, [], [], []),
  (6, .lload_n 2, 1, 2, [], [], []),
  (7, .lconst 0, 1, 0, [], [0], []),
  (8, .lcmp, 1, 0, [], [], []),
  (9, .ifCond .gt 5, 3, 14, [], [], []),
  (12, .lconst 0, 1, 0, [], [0], []),
  (13, .lreturn, 1, 0, [], [], []),
  (14, .lload_n 0, 1, 0, [], [], []),
  (15, .lstore 6, 2, 6, [], [], []),
  (17, .lload_n 2, 1, 2, [], [], []),
  (18, .lstore 8, 2, 8, [], [], []),
  (20, .iconst 0, 1, 0, [], [], []),
  (21, .istore 10, 2, 10, [], [], []),
  (23, .iconst 0, 1, 0, [], [], []),
  (24, .istore 11, 2, 11, [], [], []),
  (26, .iload 11, 2, 11, [], [], []),
  (28, .bipush 40, 2, 0, [], [], []),
  (30, .if_icmp .ge 32, 3, 62, [], [], []),
  (33, .lload 6, 2, 6, [], [], []),
  (35, .ldc2_w 7, 3, 0, [], [2], []),
  (38, .lload 8, 2, 8, [], [], []),
  (40, .lmul, 1, 0, [], [], []),
  (41, .lcmp, 1, 0, [], [], []),
  (42, .ifCond .lt 20, 3, 62, [], [], []),
  (45, .lload 8, 2, 8, [], [], []),
  (47, .ldc2_w 7, 3, 0, [], [2], []),
  (50, .lmul, 1, 0, [], [], []),
  (51, .lstore 8, 2, 8, [], [], []),
  (53, .iinc 10 1, 3, 10, [], [], []),
  (56, .iinc 11 1, 3, 11, [], [], []),
  (59, .goto (-33), 3, 26, [], [], []),
  (62, .iconst 0, 1, 0, [], [], []),
  (63, .istore 11, 2, 11, [], [], []),
  (65, .iload 11, 2, 11, [], [], []),
  (67, .bipush 40, 2, 0, [], [], []),
  (69, .if_icmp .ge 28, 3, 97, [], [], []),
  (72, .lload 6, 2, 6, [], [], []),
  (74, .lload 8, 2, 8, [], [], []),
  (76, .lcmp, 1, 0, [], [], []),
  (77, .ifCond .ge 20, 3, 97, [], [], []),
  (80, .lload 6, 2, 6, [], [], []),
  (82, .ldc2_w 7, 3, 0, [], [2], []),
  (85, .lmul, 1, 0, [], [], []),
  (86, .lstore 6, 2, 6, [], [], []),
  (88, .iinc 10 (-1), 3, 10, [], [], []),
  (91, .iinc 11 1, 3, 11, [], [], []),
  (94, .goto (-29), 3, 65, [], [], []),
  (97, .lconst 0, 1, 0, [], [0], []),
  (98, .lstore 11, 2, 11, [], [], []),
  (100, .iconst 0, 1, 0, [], [], []),
  (101, .istore 13, 2, 13, [], [], []),
  (103, .iload 13, 2, 13, [], [], []),
  (105, .iload 4, 2, 4, [], [], []),
  (107, .if_icmp .ge 46, 3, 153, [], [], []),
  (110, .lload 11, 2, 11, [], [], []),
  (112, .ldc2_w 7, 3, 0, [], [2], []),
  (115, .lmul, 1, 0, [], [], []),
  (116, .lstore 11, 2, 11, [], [], []),
  (118, .lload 6, 2, 6, [], [], []),
  (120, .lload 8, 2, 8, [], [], []),
  (122, .lcmp, 1, 0, [], [], []),
  (123, .ifCond .lt 16, 3, 139, [], [], []),
  (126, .lload 11, 2, 11, [], [], []),
  (128, .lconst 1, 1, 0, [], [1], []),
  (129, .ladd, 1, 0, [], [], []),
  (130, .lstore 11, 2, 11, [], [], []),
  (132, .lload 6, 2, 6, [], [], []),
  (134, .lload 8, 2, 8, [], [], []),
  (136, .lsub, 1, 0, [], [], []),
  (137, .lstore 6, 2, 6, [], [], []),
  (139, .lload 6, 2, 6, [], [], []),
  (141, .ldc2_w 7, 3, 0, [], [2], []),
  (144, .lmul, 1, 0, [], [], []),
  (145, .lstore 6, 2, 6, [], [], []),
  (147, .iinc 13 1, 3, 13, [], [], []),
  (150, .goto (-47), 3, 103, [], [], []),
  (153, .lload 6, 2, 6, [], [], []),
  (155, .lload 8, 2, 8, [], [], []),
  (157, .lcmp, 1, 0, [], [], []),
  (158, .ifCond .gt 20, 3, 178, [], [], []),
  (161, .lload 6, 2, 6, [], [], []),
  (163, .lload 8, 2, 8, [], [], []),
  (165, .lcmp, 1, 0, [], [], []),
  (166, .ifCond .ne 18, 3, 184, [], [], []),
  (169, .lload 11, 2, 11, [], [], []),
  (171, .lconst 1, 1, 0, [], [1], []),
  (172, .land, 1, 0, [], [], []),
  (173, .lconst 1, 1, 0, [], [1], []),
  (174, .lcmp, 1, 0, [], [], []),
  (175, .ifCond .ne 9, 3, 184, [], [], []),
  (178, .lload 11, 2, 11, [], [], []),
  (180, .lconst 1, 1, 0, [], [1], []),
  (181, .ladd, 1, 0, [], [], []),
  (182, .lstore 11, 2, 11, [], [], []),
  (184, .iload 10, 2, 10, [], [], []),
  (186, .iload 5, 2, 5, [], [], []),
  (188, .iadd, 1, 0, [], [], []),
  (189, .iconst 1, 1, 0, [], [], []),
  (190, .isub, 1, 0, [], [], []),
  (191, .i2l, 1, 0, [], [], []),
  (192, .iload 4, 2, 4, [], [], []),
  (194, .iconst 1, 1, 0, [], [], []),
  (195, .isub, 1, 0, [], [], []),
  (196, .lshl, 1, 0, [], [], []),
  (197, .lload 11, 2, 11, [], [], []),
  (199, .ladd, 1, 0, [], [], []),
  (200, .lreturn, 1, 0, [], [], [])], [(26, [false, false, false, false, true, true, true, false, true, false, true, true, false, false]), (65, [false, false, false, false, true, true, true, false, true, false, true, true, false, false]), (103, [false, false, false, false, true, true, true, false, true, false, true, true, false, true])])
def mX3_init : sM := (1, 0, [
  (0, .aload_n 0, 1, 0, [], [], []),
  (1, .invokespecial 3, 3, 0, [], [3], []),
  (4, .aload_n 0, 1, 0, [], [], []),
  (5, .bipush 8, 2, 0, [], [], []),
  (7, .anewarray 9, 3, 0, [], [25], []),
  (10, .putfield 11, 3, 2, [], [3, 0], []),
  (13, .return_, 1, 0, [], [], [])], [])
def mX3_forget : sM := (1, 0, [
  (0, .aload_n 0, 1, 0, [], [], []),
  (1, .iconst 0, 1, 0, [], [], []),
  (2, .putfield 17, 3, 0, [], [3, 2], []),
  (5, .return_, 1, 0, [], [], [])], [])
def mX3_keep : sM := (3, 0, [
  (0, .aload_n 0, 1, 0, [], [], []),
  (1, .getfield 21, 3, 0, [], [3, 1], []),
  (4, .aload_n 0, 1, 0, [], [], []),
  (5, .getfield 17, 3, 0, [], [3, 2], []),
  (8, .iadd, 1, 0, [], [], []),
  (9, .bipush 8, 2, 0, [], [], []),
  (11, .irem, 1, 0, [], [], []),
  (12, .istore_n 2, 1, 2, [], [], []),
  (13, .aload_n 0, 1, 0, [], [], []),
  (14, .getfield 17, 3, 0, [], [3, 2], []),
  (17, .bipush 8, 2, 0, [], [], []),
  (19, .if_icmp .ne 19, 3, 38, [], [], []),
  (22, .aload_n 0, 1, 0, [], [], []),
  (23, .aload_n 0, 1, 0, [], [], []),
  (24, .getfield 21, 3, 0, [], [3, 1], []),
  (27, .iconst 1, 1, 0, [], [], []),
  (28, .iadd, 1, 0, [], [], []),
  (29, .bipush 8, 2, 0, [], [], []),
  (31, .irem, 1, 0, [], [], []),
  (32, .putfield 21, 3, 0, [], [3, 1], []),
  (35, .goto 13, 3, 48, [], [], []),
  (38, .aload_n 0, 1, 0, [], [], []),
  (39, .dup, 1, 0, [], [], []),
  (40, .getfield 17, 3, 0, [], [3, 2], []),
  (43, .iconst 1, 1, 0, [], [], []),
  (44, .iadd, 1, 0, [], [], []),
  (45, .putfield 17, 3, 0, [], [3, 2], []),
  (48, .aload_n 0, 1, 0, [], [], []),
  (49, .getfield 11, 3, 2, [], [3, 0], []),
  (52, .iload_n 2, 1, 2, [], [], []),
  (53, .aaload, 1, 0, [], [], []),
  (54, .ifnonnull 16, 3, 70, [], [], []),
  (57, .aload_n 0, 1, 0, [], [], []),
  (58, .getfield 11, 3, 2, [], [3, 0], []),
  (61, .iload_n 2, 1, 2, [], [], []),
  (62, .new 9, 3, 6, [], [8], []),
  (65, .dup, 1, 0, [], [], []),
  (66, .invokespecial 24, 3, 75, [0], [8], []),
  (69, .aastore, 1, 0, [], [], []),
  (70, .aload_n 0, 1, 0, [], [], []),
  (71, .getfield 11, 3, 2, [], [3, 0], []),
  (74, .iload_n 2, 1, 2, [], [], []),
  (75, .aaload, 1, 0, [], [], []),
  (76, .aload_n 1, 1, 1, [], [], []),
  (77, .invokevirtual 25, 3, 76, [0, 1], [8], []),
  (80, .return_, 1, 0, [], [], [])], [])
def mX3_bringBack : sM := (3, 4, [
  (0, .aload_n 0, 1, 0, [], [], []),
  (1, .getfield 17, 3, 0, [], [3, 2], []),
  (4, .ifCond .ne 5, 3, 9, [], [], []),
  (7, .iconst 0, 1, 0, [], [], []),
  (8, .ireturn, 1, 0, [], [], []),
  (9, .aload_n 0, 1, 0, [], [], []),
  (10, .getfield 21, 3, 0, [], [3, 1], []),
  (13, .aload_n 0, 1, 0, [], [], []),
  (14, .getfield 17, 3, 0, [], [3, 2], []),
  (17, .iadd, 1, 0, [], [], []),
  (18, .iconst 1, 1, 0, [], [], []),
  (19, .isub, 1, 0, [], [], []),
  (20, .bipush 8, 2, 0, [], [], []),
  (22, .irem, 1, 0, [], [], []),
  (23, .istore_n 2, 1, 2, [], [], []),
  (24, .aload_n 0, 1, 0, [], [], []),
  (25, .getfield 11, 3, 2, [], [3, 0], []),
  (28, .iload_n 2, 1, 2, [], [], []),
  (29, .aaload, 1, 0, [], [], []),
  (30, .ifnonnull 5, 3, 35, [], [], []),
  (33, .iconst 0, 1, 0, [], [], []),
  (34, .ireturn, 1, 0, [], [], []),
  (35, .aload_n 0, 1, 0, [], [], []),
  (36, .dup, 1, 0, [], [], []),
  (37, .getfield 17, 3, 0, [], [3, 2], []),
  (40, .iconst 1, 1, 0, [], [], []),
  (41, .isub, 1, 0, [], [], []),
  (42, .putfield 17, 3, 0, [], [3, 2], []),
  (45, .aload_n 1, 1, 1, [], [], []),
  (46, .aload_n 0, 1, 0, [], [], []),
  (47, .getfield 11, 3, 2, [], [3, 0], []),
  (50, .iload_n 2, 1, 2, [], [], []),
  (51, .aaload, 1, 0, [], [], []),
  (52, .invokevirtual 25, 3, 76, [0, 1], [8], []),
  (55, .iconst 1, 1, 0, [], [], []),
  (56, .ireturn, 1, 0, [], [], [])], [])
def mX4_init : sM := (1, 0, [
  (0, .aload_n 0, 1, 0, [], [], []),
  (1, .invokespecial 3, 3, 0, [], [4], []),
  (4, .aload_n 0, 1, 0, [], [], []),
  (5, .iconst 0, 1, 0, [], [], []),
  (6, .newarray .int, 2, 0, [], [20], []),
  (8, .putfield 9, 3, 2, [], [4, 0], []),
  (11, .return_, 1, 0, [], [], [])], [])
def mX4_open : sM := (4, 0, [
  (0, .aload_n 0, 1, 0, [], [], []),
  (1, .aload_n 1, 1, 1, [], [], []),
  (2, .putfield 9, 3, 2, [], [4, 0], []),
  (5, .aload_n 0, 1, 0, [], [], []),
  (6, .iload_n 2, 1, 2, [], [], []),
  (7, .aload_n 1, 1, 1, [], [], []),
  (8, .arraylength, 1, 0, [], [], []),
  (9, .if_icmp .ge 7, 3, 16, [], [], []),
  (12, .iload_n 2, 1, 2, [], [], []),
  (13, .goto 5, 3, 18, [], [], []),
  (16, .aload_n 1, 1, 1, [], [], []),
  (17, .arraylength, 1, 0, [], [], []),
  (18, .putfield 15, 3, 0, [], [4, 1], []),
  (21, .aload_n 0, 1, 0, [], [], []),
  (22, .iload_n 3, 1, 3, [], [], []),
  (23, .putfield 19, 3, 0, [], [4, 2], []),
  (26, .aload_n 0, 1, 0, [], [], []),
  (27, .iconst 0, 1, 0, [], [], []),
  (28, .putfield 22, 3, 0, [], [4, 3], []),
  (31, .aload_n 0, 1, 0, [], [], []),
  (32, .iconst 0, 1, 0, [], [], []),
  (33, .putfield 25, 3, 0, [], [4, 10], []),
  (36, .aload_n 0, 1, 0, [], [], []),
  (37, .iconst 0, 1, 0, [], [], []),
  (38, .putfield 28, 3, 0, [], [4, 11], []),
  (41, .aload_n 0, 1, 0, [], [], []),
  (42, .invokevirtual 31, 3, 16, [0, 0], [4], []),
  (45, .return_, 1, 0, [], [], [])], [])
def mX4_advance : sM := (2, 0, [
  (0, .aload_n 0, 1, 0, [], [], []),
  (1, .getfield 15, 3, 0, [], [4, 1], []),
  (4, .aload_n 0, 1, 0, [], [], []),
  (5, .getfield 19, 3, 0, [], [4, 2], []),
  (8, .if_icmp .ge 10, 3, 18, [], [], []),
  (11, .aload_n 0, 1, 0, [], [], []),
  (12, .getfield 15, 3, 0, [], [4, 1], []),
  (15, .goto 7, 3, 22, [], [], []),
  (18, .aload_n 0, 1, 0, [], [], []),
  (19, .getfield 19, 3, 0, [], [4, 2], []),
  (22, .istore_n 1, 1, 1, [], [], []),
  (23, .aload_n 0, 1, 0, [], [], []),
  (24, .getfield 22, 3, 0, [], [4, 3], []),
  (27, .iload_n 1, 1, 1, [], [], []),
  (28, .if_icmp .ge 44, 3, 72, [], [], []),
  (31, .aload_n 0, 1, 0, [], [], []),
  (32, .getfield 9, 3, 2, [], [4, 0], []),
  (35, .aload_n 0, 1, 0, [], [], []),
  (36, .getfield 22, 3, 0, [], [4, 3], []),
  (39, .iaload, 1, 0, [], [], []),
  (40, .bipush 32, 2, 0, [], [], []),
  (42, .if_icmp .eq 17, 3, 59, [], [], []),
  (45, .aload_n 0, 1, 0, [], [], []),
  (46, .getfield 9, 3, 2, [], [4, 0], []),
  (49, .aload_n 0, 1, 0, [], [], []),
  (50, .getfield 22, 3, 0, [], [4, 3], []),
  (53, .iaload, 1, 0, [], [], []),
  (54, .bipush 10, 2, 0, [], [], []),
  (56, .if_icmp .ne 16, 3, 72, [], [], []),
  (59, .aload_n 0, 1, 0, [], [], []),
  (60, .dup, 1, 0, [], [], []),
  (61, .getfield 22, 3, 0, [], [4, 3], []),
  (64, .iconst 1, 1, 0, [], [], []),
  (65, .iadd, 1, 0, [], [], []),
  (66, .putfield 22, 3, 0, [], [4, 3], []),
  (69, .goto (-46), 3, 23, [], [], []),
  (72, .aload_n 0, 1, 0, [], [], []),
  (73, .aconst_null, 1, 0, [], [], []),
  (74, .putfield 34, 3, 2, [], [4, 9], []),
  (77, .aload_n 0, 1, 0, [], [], []),
  (78, .getfield 22, 3, 0, [], [4, 3], []),
  (81, .iload_n 1, 1, 1, [], [], []),
  (82, .if_icmp .lt 29, 3, 111, [], [], []),
  (85, .aload_n 0, 1, 0, [], [], []),
  (86, .iload_n 1, 1, 1, [], [], []),
  (87, .putfield 38, 3, 0, [], [4, 5], []),
  (90, .aload_n 0, 1, 0, [], [], []),
  (91, .aload_n 0, 1, 0, [], [], []),
  (92, .getfield 15, 3, 0, [], [4, 1], []),
  (95, .aload_n 0, 1, 0, [], [], []),
  (96, .getfield 19, 3, 0, [], [4, 2], []),
  (99, .if_icmp .le 7, 3, 106, [], [], []),
  (102, .iconst 1, 1, 0, [], [], []),
  (103, .goto 4, 3, 107, [], [], []),
  (106, .iconst 0, 1, 0, [], [], []),
  (107, .putfield 41, 3, 0, [], [4, 4], []),
  (110, .return_, 1, 0, [], [], []),
  (111, .aload_n 0, 1, 0, [], [], []),
  (112, .aload_n 0, 1, 0, [], [], []),
  (113, .getfield 22, 3, 0, [], [4, 3], []),
  (116, .putfield 38, 3, 0, [], [4, 5], []),
  (119, .aload_n 0, 1, 0, [], [], []),
  (120, .invokevirtual 44, 3, 17, [0, 0], [4], []),
  (123, .aload_n 0, 1, 0, [], [], []),
  (124, .getfield 22, 3, 0, [], [4, 3], []),
  (127, .aload_n 0, 1, 0, [], [], []),
  (128, .getfield 38, 3, 0, [], [4, 5], []),
  (131, .if_icmp .ne 45, 3, 176, [], [], []),
  (134, .aload_n 0, 1, 0, [], [], []),
  (135, .aload_n 0, 1, 0, [], [], []),
  (136, .getfield 9, 3, 2, [], [4, 0], []),
  (139, .aload_n 0, 1, 0, [], [], []),
  (140, .getfield 22, 3, 0, [], [4, 3], []),
  (143, .iaload, 1, 0, [], [], []),
  (144, .putfield 47, 3, 0, [], [4, 7], []),
  (147, .aload_n 0, 1, 0, [], [], []),
  (148, .aload_n 0, 1, 0, [], [], []),
  (149, .getfield 47, 3, 0, [], [4, 7], []),
  (152, .invokestatic 50, 3, 18, [4, 1], [], []),
  (155, .ifCond .eq 7, 3, 162, [], [], []),
  (158, .iconst 4, 1, 0, [], [], []),
  (159, .goto 4, 3, 163, [], [], []),
  (162, .iconst 1, 1, 0, [], [], []),
  (163, .putfield 41, 3, 0, [], [4, 4], []),
  (166, .aload_n 0, 1, 0, [], [], []),
  (167, .dup, 1, 0, [], [], []),
  (168, .getfield 22, 3, 0, [], [4, 3], []),
  (171, .iconst 1, 1, 0, [], [], []),
  (172, .iadd, 1, 0, [], [], []),
  (173, .putfield 22, 3, 0, [], [4, 3], []),
  (176, .aload_n 0, 1, 0, [], [], []),
  (177, .aload_n 0, 1, 0, [], [], []),
  (178, .getfield 41, 3, 0, [], [4, 4], []),
  (181, .iconst 2, 1, 0, [], [], []),
  (182, .if_icmp .ne 13, 3, 195, [], [], []),
  (185, .aload_n 0, 1, 0, [], [], []),
  (186, .getfield 54, 3, 1, [], [4, 8], []),
  (189, .invokestatic 58, 3, 94, [3, 1], [], []),
  (192, .goto 4, 3, 196, [], [], []),
  (195, .aconst_null, 1, 0, [], [], []),
  (196, .putfield 34, 3, 2, [], [4, 9], []),
  (199, .return_, 1, 0, [], [], [])], [(23, [true, true]), (72, [true, true])])
def mX4_readLettersAndDigits : sM := (5, 0, [
  (0, .iconst 0, 1, 0, [], [], []),
  (1, .istore_n 1, 1, 1, [], [], []),
  (2, .iconst 0, 1, 0, [], [], []),
  (3, .istore_n 2, 1, 2, [], [], []),
  (4, .aload_n 0, 1, 0, [], [], []),
  (5, .lconst 0, 1, 0, [], [0], []),
  (6, .putfield 54, 3, 1, [], [4, 8], []),
  (9, .aload_n 0, 1, 0, [], [], []),
  (10, .iconst 0, 1, 0, [], [], []),
  (11, .putfield 64, 3, 0, [], [4, 6], []),
  (14, .aload_n 0, 1, 0, [], [], []),
  (15, .getfield 22, 3, 0, [], [4, 3], []),
  (18, .aload_n 0, 1, 0, [], [], []),
  (19, .getfield 15, 3, 0, [], [4, 1], []),
  (22, .if_icmp .ge 95, 3, 117, [], [], []),
  (25, .aload_n 0, 1, 0, [], [], []),
  (26, .getfield 9, 3, 2, [], [4, 0], []),
  (29, .aload_n 0, 1, 0, [], [], []),
  (30, .getfield 22, 3, 0, [], [4, 3], []),
  (33, .iaload, 1, 0, [], [], []),
  (34, .istore_n 3, 1, 3, [], [], []),
  (35, .iload_n 3, 1, 3, [], [], []),
  (36, .bipush 97, 2, 0, [], [], []),
  (38, .if_icmp .lt 35, 3, 73, [], [], []),
  (41, .iload_n 3, 1, 3, [], [], []),
  (42, .bipush 122, 2, 0, [], [], []),
  (44, .if_icmp .gt 29, 3, 73, [], [], []),
  (47, .iinc 1 1, 3, 1, [], [], []),
  (50, .aload_n 0, 1, 0, [], [], []),
  (51, .aload_n 0, 1, 0, [], [], []),
  (52, .getfield 54, 3, 1, [], [4, 8], []),
  (55, .ldc2_w 67, 3, 0, [], [32], []),
  (58, .lmul, 1, 0, [], [], []),
  (59, .iload_n 3, 1, 3, [], [], []),
  (60, .bipush 97, 2, 0, [], [], []),
  (62, .isub, 1, 0, [], [], []),
  (63, .iconst 1, 1, 0, [], [], []),
  (64, .iadd, 1, 0, [], [], []),
  (65, .i2l, 1, 0, [], [], []),
  (66, .ladd, 1, 0, [], [], []),
  (67, .putfield 54, 3, 1, [], [4, 8], []),
  (70, .goto 34, 3, 104, [], [], []),
  (73, .iload_n 3, 1, 3, [], [], []),
  (74, .bipush 48, 2, 0, [], [], []),
  (76, .if_icmp .lt 41, 3, 117, [], [], []),
  (79, .iload_n 3, 1, 3, [], [], []),
  (80, .bipush 57, 2, 0, [], [], []),
  (82, .if_icmp .gt 35, 3, 117, [], [], []),
  (85, .iinc 2 1, 3, 2, [], [], []),
  (88, .aload_n 0, 1, 0, [], [], []),
  (89, .aload_n 0, 1, 0, [], [], []),
  (90, .getfield 64, 3, 0, [], [4, 6], []),
  (93, .bipush 10, 2, 0, [], [], []),
  (95, .imul, 1, 0, [], [], []),
  (96, .iload_n 3, 1, 3, [], [], []),
  (97, .bipush 48, 2, 0, [], [], []),
  (99, .isub, 1, 0, [], [], []),
  (100, .iadd, 1, 0, [], [], []),
  (101, .putfield 64, 3, 0, [], [4, 6], []),
  (104, .aload_n 0, 1, 0, [], [], []),
  (105, .dup, 1, 0, [], [], []),
  (106, .getfield 22, 3, 0, [], [4, 3], []),
  (109, .iconst 1, 1, 0, [], [], []),
  (110, .iadd, 1, 0, [], [], []),
  (111, .putfield 22, 3, 0, [], [4, 3], []),
  (114, .goto (-100), 3, 14, [], [], []),
  (117, .iload_n 2, 1, 2, [], [], []),
  (118, .ifCond .ne 18, 3, 136, [], [], []),
  (121, .iload_n 1, 1, 1, [], [], []),
  (122, .iconst 1, 1, 0, [], [], []),
  (123, .if_icmp .lt 13, 3, 136, [], [], []),
  (126, .iload_n 1, 1, 1, [], [], []),
  (127, .bipush 7, 2, 0, [], [], []),
  (129, .if_icmp .gt 7, 3, 136, [], [], []),
  (132, .iconst 1, 1, 0, [], [], []),
  (133, .goto 4, 3, 137, [], [], []),
  (136, .iconst 0, 1, 0, [], [], []),
  (137, .istore_n 3, 1, 3, [], [], []),
  (138, .iload_n 1, 1, 1, [], [], []),
  (139, .ifCond .ne 17, 3, 156, [], [], []),
  (142, .iload_n 2, 1, 2, [], [], []),
  (143, .iconst 1, 1, 0, [], [], []),
  (144, .if_icmp .lt 12, 3, 156, [], [], []),
  (147, .iload_n 2, 1, 2, [], [], []),
  (148, .iconst 3, 1, 0, [], [], []),
  (149, .if_icmp .gt 7, 3, 156, [], [], []),
  (152, .iconst 1, 1, 0, [], [], []),
  (153, .goto 4, 3, 157, [], [], []),
  (156, .iconst 0, 1, 0, [], [], []),
  (157, .istore 4, 2, 4, [], [], []),
  (159, .aload_n 0, 1, 0, [], [], []),
  (160, .iload_n 3, 1, 3, [], [], []),
  (161, .ifCond .eq 7, 3, 168, [], [], []),
  (164, .iconst 2, 1, 0, [], [], []),
  (165, .goto 13, 3, 178, [], [], []),
  (168, .iload 4, 2, 4, [], [], []),
  (170, .ifCond .eq 7, 3, 177, [], [], []),
  (173, .iconst 3, 1, 0, [], [], []),
  (174, .goto 4, 3, 178, [], [], []),
  (177, .iconst 1, 1, 0, [], [], []),
  (178, .putfield 41, 3, 0, [], [4, 4], []),
  (181, .return_, 1, 0, [], [], [])], [(14, [true, true, true, false, false]), (117, [true, true, true, false, false]), (137, [true, true, true, false, false])])
def mX4_isSign : sM := (1, 4, [
  (0, .iload_n 0, 1, 0, [], [], []),
  (1, .bipush 59, 2, 0, [], [], []),
  (3, .if_icmp .eq 33, 3, 36, [], [], []),
  (6, .iload_n 0, 1, 0, [], [], []),
  (7, .bipush 60, 2, 0, [], [], []),
  (9, .if_icmp .eq 27, 3, 36, [], [], []),
  (12, .iload_n 0, 1, 0, [], [], []),
  (13, .bipush 61, 2, 0, [], [], []),
  (15, .if_icmp .eq 21, 3, 36, [], [], []),
  (18, .iload_n 0, 1, 0, [], [], []),
  (19, .bipush 62, 2, 0, [], [], []),
  (21, .if_icmp .eq 15, 3, 36, [], [], []),
  (24, .iload_n 0, 1, 0, [], [], []),
  (25, .bipush 40, 2, 0, [], [], []),
  (27, .if_icmp .eq 9, 3, 36, [], [], []),
  (30, .iload_n 0, 1, 0, [], [], []),
  (31, .bipush 41, 2, 0, [], [], []),
  (33, .if_icmp .ne 7, 3, 40, [], [], []),
  (36, .iconst 1, 1, 0, [], [], []),
  (37, .goto 4, 3, 41, [], [], []),
  (40, .iconst 0, 1, 0, [], [], []),
  (41, .ireturn, 1, 0, [], [], [])], [])
def mX4_goesOn : sM := (1, 4, [
  (0, .aload_n 0, 1, 0, [], [], []),
  (1, .getfield 25, 3, 0, [], [4, 10], []),
  (4, .ifCond .ne 14, 3, 18, [], [], []),
  (7, .aload_n 0, 1, 0, [], [], []),
  (8, .getfield 41, 3, 0, [], [4, 4], []),
  (11, .ifCond .eq 7, 3, 18, [], [], []),
  (14, .iconst 1, 1, 0, [], [], []),
  (15, .goto 4, 3, 19, [], [], []),
  (18, .iconst 0, 1, 0, [], [], []),
  (19, .ireturn, 1, 0, [], [], [])], [])
def mX4_fail : sM := (2, 0, [
  (0, .aload_n 0, 1, 0, [], [], []),
  (1, .getfield 25, 3, 0, [], [4, 10], []),
  (4, .ifCond .ne 16, 3, 20, [], [], []),
  (7, .aload_n 0, 1, 0, [], [], []),
  (8, .iload_n 1, 1, 1, [], [], []),
  (9, .putfield 25, 3, 0, [], [4, 10], []),
  (12, .aload_n 0, 1, 0, [], [], []),
  (13, .aload_n 0, 1, 0, [], [], []),
  (14, .getfield 38, 3, 0, [], [4, 5], []),
  (17, .putfield 28, 3, 0, [], [4, 11], []),
  (20, .return_, 1, 0, [], [], [])], [])
def mX4_isAtName : sM := (1, 4, [
  (0, .aload_n 0, 1, 0, [], [], []),
  (1, .getfield 41, 3, 0, [], [4, 4], []),
  (4, .iconst 2, 1, 0, [], [], []),
  (5, .if_icmp .ne 14, 3, 19, [], [], []),
  (8, .aload_n 0, 1, 0, [], [], []),
  (9, .getfield 34, 3, 2, [], [4, 9], []),
  (12, .ifnonnull 7, 3, 19, [], [], []),
  (15, .iconst 1, 1, 0, [], [], []),
  (16, .goto 4, 3, 20, [], [], []),
  (19, .iconst 0, 1, 0, [], [], []),
  (20, .ireturn, 1, 0, [], [], [])], [])
def mX4_isAtSign : sM := (2, 4, [
  (0, .aload_n 0, 1, 0, [], [], []),
  (1, .getfield 41, 3, 0, [], [4, 4], []),
  (4, .iconst 4, 1, 0, [], [], []),
  (5, .if_icmp .ne 15, 3, 20, [], [], []),
  (8, .aload_n 0, 1, 0, [], [], []),
  (9, .getfield 47, 3, 0, [], [4, 7], []),
  (12, .iload_n 1, 1, 1, [], [], []),
  (13, .if_icmp .ne 7, 3, 20, [], [], []),
  (16, .iconst 1, 1, 0, [], [], []),
  (17, .goto 4, 3, 21, [], [], []),
  (20, .iconst 0, 1, 0, [], [], []),
  (21, .ireturn, 1, 0, [], [], [])], [])
def mX4_takeSign : sM := (2, 0, [
  (0, .aload_n 0, 1, 0, [], [], []),
  (1, .getfield 25, 3, 0, [], [4, 10], []),
  (4, .ifCond .eq 4, 3, 8, [], [], []),
  (7, .return_, 1, 0, [], [], []),
  (8, .aload_n 0, 1, 0, [], [], []),
  (9, .iload_n 1, 1, 1, [], [], []),
  (10, .invokevirtual 69, 3, 22, [4, 1], [4], []),
  (13, .ifCond .eq 10, 3, 23, [], [], []),
  (16, .aload_n 0, 1, 0, [], [], []),
  (17, .invokevirtual 31, 3, 16, [0, 0], [4], []),
  (20, .goto 8, 3, 28, [], [], []),
  (23, .aload_n 0, 1, 0, [], [], []),
  (24, .iconst 1, 1, 0, [], [], []),
  (25, .invokevirtual 72, 3, 20, [0, 1], [4], []),
  (28, .return_, 1, 0, [], [], [])], [])
def mX4_takeComparison : sM := (2, 1, [
  (0, .aload_n 0, 1, 0, [], [], []),
  (1, .getfield 25, 3, 0, [], [4, 10], []),
  (4, .ifCond .eq 5, 3, 9, [], [], []),
  (7, .iconst 0, 1, 0, [], [], []),
  (8, .ireturn, 1, 0, [], [], []),
  (9, .aload_n 0, 1, 0, [], [], []),
  (10, .bipush 60, 2, 0, [], [], []),
  (12, .invokevirtual 69, 3, 22, [4, 1], [4], []),
  (15, .ifCond .ne 28, 3, 43, [], [], []),
  (18, .aload_n 0, 1, 0, [], [], []),
  (19, .bipush 61, 2, 0, [], [], []),
  (21, .invokevirtual 69, 3, 22, [4, 1], [4], []),
  (24, .ifCond .ne 19, 3, 43, [], [], []),
  (27, .aload_n 0, 1, 0, [], [], []),
  (28, .bipush 62, 2, 0, [], [], []),
  (30, .invokevirtual 69, 3, 22, [4, 1], [4], []),
  (33, .ifCond .ne 10, 3, 43, [], [], []),
  (36, .aload_n 0, 1, 0, [], [], []),
  (37, .iconst 1, 1, 0, [], [], []),
  (38, .invokevirtual 72, 3, 20, [0, 1], [4], []),
  (41, .iconst 0, 1, 0, [], [], []),
  (42, .ireturn, 1, 0, [], [], []),
  (43, .aload_n 0, 1, 0, [], [], []),
  (44, .getfield 47, 3, 0, [], [4, 7], []),
  (47, .istore_n 1, 1, 1, [], [], []),
  (48, .aload_n 0, 1, 0, [], [], []),
  (49, .invokevirtual 31, 3, 16, [0, 0], [4], []),
  (52, .iload_n 1, 1, 1, [], [], []),
  (53, .ireturn, 1, 0, [], [], [])], [])
def mX4_takeNumber : sM := (4, 1, [
  (0, .aload_n 0, 1, 0, [], [], []),
  (1, .getfield 25, 3, 0, [], [4, 10], []),
  (4, .ifCond .eq 5, 3, 9, [], [], []),
  (7, .iconst (-1), 1, 0, [], [], []),
  (8, .ireturn, 1, 0, [], [], []),
  (9, .aload_n 0, 1, 0, [], [], []),
  (10, .getfield 41, 3, 0, [], [4, 4], []),
  (13, .iconst 3, 1, 0, [], [], []),
  (14, .if_icmp .eq 10, 3, 24, [], [], []),
  (17, .aload_n 0, 1, 0, [], [], []),
  (18, .iconst 1, 1, 0, [], [], []),
  (19, .invokevirtual 72, 3, 20, [0, 1], [4], []),
  (22, .iconst (-1), 1, 0, [], [], []),
  (23, .ireturn, 1, 0, [], [], []),
  (24, .aload_n 0, 1, 0, [], [], []),
  (25, .getfield 64, 3, 0, [], [4, 6], []),
  (28, .iload_n 1, 1, 1, [], [], []),
  (29, .if_icmp .lt 11, 3, 40, [], [], []),
  (32, .aload_n 0, 1, 0, [], [], []),
  (33, .getfield 64, 3, 0, [], [4, 6], []),
  (36, .iload_n 2, 1, 2, [], [], []),
  (37, .if_icmp .le 10, 3, 47, [], [], []),
  (40, .aload_n 0, 1, 0, [], [], []),
  (41, .iconst 2, 1, 0, [], [], []),
  (42, .invokevirtual 72, 3, 20, [0, 1], [4], []),
  (45, .iconst (-1), 1, 0, [], [], []),
  (46, .ireturn, 1, 0, [], [], []),
  (47, .aload_n 0, 1, 0, [], [], []),
  (48, .getfield 64, 3, 0, [], [4, 6], []),
  (51, .istore_n 3, 1, 3, [], [], []),
  (52, .aload_n 0, 1, 0, [], [], []),
  (53, .invokevirtual 31, 3, 16, [0, 0], [4], []),
  (56, .iload_n 3, 1, 3, [], [], []),
  (57, .ireturn, 1, 0, [], [], [])], [])
def mX4_takeRow : sM := (4, 1, [
  (0, .aload_n 0, 1, 0, [], [], []),
  (1, .getfield 25, 3, 0, [], [4, 10], []),
  (4, .ifCond .eq 5, 3, 9, [], [], []),
  (7, .iconst (-1), 1, 0, [], [], []),
  (8, .ireturn, 1, 0, [], [], []),
  (9, .aload_n 0, 1, 0, [], [], []),
  (10, .invokevirtual 76, 3, 21, [4, 0], [4], []),
  (13, .ifCond .ne 10, 3, 23, [], [], []),
  (16, .aload_n 0, 1, 0, [], [], []),
  (17, .iconst 1, 1, 0, [], [], []),
  (18, .invokevirtual 72, 3, 20, [0, 1], [4], []),
  (21, .iconst (-1), 1, 0, [], [], []),
  (22, .ireturn, 1, 0, [], [], []),
  (23, .aload_n 1, 1, 1, [], [], []),
  (24, .aload_n 0, 1, 0, [], [], []),
  (25, .getfield 54, 3, 1, [], [4, 8], []),
  (28, .invokevirtual 80, 3, 78, [1, 1], [8], []),
  (31, .istore_n 3, 1, 3, [], [], []),
  (32, .iload_n 3, 1, 3, [], [], []),
  (33, .iconst (-1), 1, 0, [], [], []),
  (34, .if_icmp .eq 8, 3, 42, [], [], []),
  (37, .iload_n 3, 1, 3, [], [], []),
  (38, .iload_n 2, 1, 2, [], [], []),
  (39, .if_icmp .ne 10, 3, 49, [], [], []),
  (42, .aload_n 0, 1, 0, [], [], []),
  (43, .iconst 3, 1, 0, [], [], []),
  (44, .invokevirtual 72, 3, 20, [0, 1], [4], []),
  (47, .iconst (-1), 1, 0, [], [], []),
  (48, .ireturn, 1, 0, [], [], []),
  (49, .aload_n 0, 1, 0, [], [], []),
  (50, .invokevirtual 31, 3, 16, [0, 0], [4], []),
  (53, .iload_n 3, 1, 3, [], [], []),
  (54, .ireturn, 1, 0, [], [], [])], [])
def mX4_lettersOfWord : sM := (1, 1, [
  (0, .aload_n 0, 1, 0, [], [], []),
  (1, .getfield 22, 3, 0, [], [4, 3], []),
  (4, .aload_n 0, 1, 0, [], [], []),
  (5, .getfield 38, 3, 0, [], [4, 5], []),
  (8, .isub, 1, 0, [], [], []),
  (9, .ireturn, 1, 0, [], [], [])], [])
def mX4_letterOfWord : sM := (3, 1, [
  (0, .aload_n 0, 1, 0, [], [], []),
  (1, .getfield 38, 3, 0, [], [4, 5], []),
  (4, .iload_n 1, 1, 1, [], [], []),
  (5, .iadd, 1, 0, [], [], []),
  (6, .istore_n 2, 1, 2, [], [], []),
  (7, .iload_n 2, 1, 2, [], [], []),
  (8, .ifCond .lt 11, 3, 19, [], [], []),
  (11, .iload_n 2, 1, 2, [], [], []),
  (12, .aload_n 0, 1, 0, [], [], []),
  (13, .getfield 15, 3, 0, [], [4, 1], []),
  (16, .if_icmp .lt 7, 3, 23, [], [], []),
  (19, .iconst 0, 1, 0, [], [], []),
  (20, .goto 9, 3, 29, [], [], []),
  (23, .aload_n 0, 1, 0, [], [], []),
  (24, .getfield 9, 3, 2, [], [4, 0], []),
  (27, .iload_n 2, 1, 2, [], [], []),
  (28, .iaload, 1, 0, [], [], []),
  (29, .ireturn, 1, 0, [], [], [])], [])
def mX5_init : sM := (1, 0, [
  (0, .aload_n 0, 1, 0, [], [], []),
  (1, .invokespecial 3, 3, 0, [], [5], []),
  (4, .aload_n 0, 1, 0, [], [], []),
  (5, .sipush 600, 3, 0, [], [], []),
  (8, .newarray .byte, 2, 0, [], [21], []),
  (10, .putfield 9, 3, 2, [], [5, 0], []),
  (13, .aload_n 0, 1, 0, [], [], []),
  (14, .sipush 152, 3, 0, [], [], []),
  (17, .newarray .int, 2, 0, [], [20], []),
  (19, .putfield 15, 3, 2, [], [5, 1], []),
  (22, .return_, 1, 0, [], [], [])], [])
def mX5_clear : sM := (1, 0, [
  (0, .aload_n 0, 1, 0, [], [], []),
  (1, .iconst 0, 1, 0, [], [], []),
  (2, .putfield 19, 3, 0, [], [5, 2], []),
  (5, .aload_n 0, 1, 0, [], [], []),
  (6, .iconst 0, 1, 0, [], [], []),
  (7, .putfield 23, 3, 0, [], [5, 3], []),
  (10, .return_, 1, 0, [], [], [])], [])
def mX5_copyFrom : sM := (2, 0, [
  (0, .aload_n 1, 1, 1, [], [], []),
  (1, .getfield 9, 3, 2, [], [5, 0], []),
  (4, .iconst 0, 1, 0, [], [], []),
  (5, .aload_n 0, 1, 0, [], [], []),
  (6, .getfield 9, 3, 2, [], [5, 0], []),
  (9, .iconst 0, 1, 0, [], [], []),
  (10, .aload_n 1, 1, 1, [], [], []),
  (11, .getfield 19, 3, 0, [], [5, 2], []),
  (14, .invokestatic 26, 3, 0, [0], [], []),
  (17, .aload_n 1, 1, 1, [], [], []),
  (18, .getfield 15, 3, 2, [], [5, 1], []),
  (21, .iconst 0, 1, 0, [], [], []),
  (22, .aload_n 0, 1, 0, [], [], []),
  (23, .getfield 15, 3, 2, [], [5, 1], []),
  (26, .iconst 0, 1, 0, [], [], []),
  (27, .aload_n 1, 1, 1, [], [], []),
  (28, .getfield 23, 3, 0, [], [5, 3], []),
  (31, .invokestatic 26, 3, 0, [0], [], []),
  (34, .aload_n 0, 1, 0, [], [], []),
  (35, .aload_n 1, 1, 1, [], [], []),
  (36, .getfield 19, 3, 0, [], [5, 2], []),
  (39, .putfield 19, 3, 0, [], [5, 2], []),
  (42, .aload_n 0, 1, 0, [], [], []),
  (43, .aload_n 1, 1, 1, [], [], []),
  (44, .getfield 23, 3, 0, [], [5, 3], []),
  (47, .putfield 23, 3, 0, [], [5, 3], []),
  (50, .return_, 1, 0, [], [], [])], [])
def mX5_hasGap : sM := (2, 4, [
  (0, .iload_n 1, 1, 1, [], [], []),
  (1, .ifCond .lt 15, 3, 16, [], [], []),
  (4, .iload_n 1, 1, 1, [], [], []),
  (5, .aload_n 0, 1, 0, [], [], []),
  (6, .getfield 19, 3, 0, [], [5, 2], []),
  (9, .if_icmp .gt 7, 3, 16, [], [], []),
  (12, .iconst 1, 1, 0, [], [], []),
  (13, .goto 4, 3, 17, [], [], []),
  (16, .iconst 0, 1, 0, [], [], []),
  (17, .ireturn, 1, 0, [], [], [])], [])
def mX5_hasRange : sM := (3, 4, [
  (0, .iload_n 1, 1, 1, [], [], []),
  (1, .ifCond .lt 21, 3, 22, [], [], []),
  (4, .iload_n 2, 1, 2, [], [], []),
  (5, .ifCond .lt 17, 3, 22, [], [], []),
  (8, .iload_n 1, 1, 1, [], [], []),
  (9, .aload_n 0, 1, 0, [], [], []),
  (10, .getfield 19, 3, 0, [], [5, 2], []),
  (13, .iload_n 2, 1, 2, [], [], []),
  (14, .isub, 1, 0, [], [], []),
  (15, .if_icmp .gt 7, 3, 22, [], [], []),
  (18, .iconst 1, 1, 0, [], [], []),
  (19, .goto 4, 3, 23, [], [], []),
  (22, .iconst 0, 1, 0, [], [], []),
  (23, .ireturn, 1, 0, [], [], [])], [])
def mX5_bitAt : sM := (2, 1, [
  (0, .iload_n 1, 1, 1, [], [], []),
  (1, .ifCond .lt 11, 3, 12, [], [], []),
  (4, .iload_n 1, 1, 1, [], [], []),
  (5, .aload_n 0, 1, 0, [], [], []),
  (6, .getfield 19, 3, 0, [], [5, 2], []),
  (9, .if_icmp .lt 7, 3, 16, [], [], []),
  (12, .iconst (-1), 1, 0, [], [], []),
  (13, .goto 9, 3, 22, [], [], []),
  (16, .aload_n 0, 1, 0, [], [], []),
  (17, .getfield 9, 3, 2, [], [5, 0], []),
  (20, .iload_n 1, 1, 1, [], [], []),
  (21, .baload, 1, 0, [], [], []),
  (22, .ireturn, 1, 0, [], [], [])], [])
def mX5_countIn : sM := (6, 1, [
  (0, .iconst 0, 1, 0, [], [], []),
  (1, .istore 4, 2, 4, [], [], []),
  (3, .aload_n 0, 1, 0, [], [], []),
  (4, .iload_n 1, 1, 1, [], [], []),
  (5, .iload_n 2, 1, 2, [], [], []),
  (6, .invokevirtual 32, 3, 33, [4, 2], [5], []),
  (9, .ifCond .eq 34, 3, 43, [], [], []),
  (12, .iload_n 1, 1, 1, [], [], []),
  (13, .istore 5, 2, 5, [], [], []),
  (15, .iload 5, 2, 5, [], [], []),
  (17, .iload_n 1, 1, 1, [], [], []),
  (18, .iload_n 2, 1, 2, [], [], []),
  (19, .iadd, 1, 0, [], [], []),
  (20, .if_icmp .ge 23, 3, 43, [], [], []),
  (23, .aload_n 0, 1, 0, [], [], []),
  (24, .getfield 9, 3, 2, [], [5, 0], []),
  (27, .iload 5, 2, 5, [], [], []),
  (29, .baload, 1, 0, [], [], []),
  (30, .iload_n 3, 1, 3, [], [], []),
  (31, .if_icmp .ne 6, 3, 37, [], [], []),
  (34, .iinc 4 1, 3, 4, [], [], []),
  (37, .iinc 5 1, 3, 5, [], [], []),
  (40, .goto (-25), 3, 15, [], [], []),
  (43, .iload 4, 2, 4, [], [], []),
  (45, .ireturn, 1, 0, [], [], [])], [(15, [true, true, true, true, true, true])])
def mX5_placeOf : sM := (5, 1, [
  (0, .iconst 0, 1, 0, [], [], []),
  (1, .istore_n 3, 1, 3, [], [], []),
  (2, .iconst 0, 1, 0, [], [], []),
  (3, .istore 4, 2, 4, [], [], []),
  (5, .iload 4, 2, 4, [], [], []),
  (7, .aload_n 0, 1, 0, [], [], []),
  (8, .getfield 19, 3, 0, [], [5, 2], []),
  (11, .if_icmp .ge 31, 3, 42, [], [], []),
  (14, .aload_n 0, 1, 0, [], [], []),
  (15, .getfield 9, 3, 2, [], [5, 0], []),
  (18, .iload 4, 2, 4, [], [], []),
  (20, .baload, 1, 0, [], [], []),
  (21, .iload_n 2, 1, 2, [], [], []),
  (22, .if_icmp .ne 14, 3, 36, [], [], []),
  (25, .iload_n 3, 1, 3, [], [], []),
  (26, .iload_n 1, 1, 1, [], [], []),
  (27, .if_icmp .ne 6, 3, 33, [], [], []),
  (30, .iload 4, 2, 4, [], [], []),
  (32, .ireturn, 1, 0, [], [], []),
  (33, .iinc 3 1, 3, 3, [], [], []),
  (36, .iinc 4 1, 3, 4, [], [], []),
  (39, .goto (-34), 3, 5, [], [], []),
  (42, .iconst (-1), 1, 0, [], [], []),
  (43, .ireturn, 1, 0, [], [], [])], [(5, [true, true, true, true, true])])
def mX5_nextPlace : sM := (4, 1, [
  (0, .iload_n 1, 1, 1, [], [], []),
  (1, .ifCond .ge 5, 3, 6, [], [], []),
  (4, .iconst (-1), 1, 0, [], [], []),
  (5, .ireturn, 1, 0, [], [], []),
  (6, .iload_n 1, 1, 1, [], [], []),
  (7, .istore_n 3, 1, 3, [], [], []),
  (8, .iload_n 3, 1, 3, [], [], []),
  (9, .aload_n 0, 1, 0, [], [], []),
  (10, .getfield 19, 3, 0, [], [5, 2], []),
  (13, .if_icmp .ge 21, 3, 34, [], [], []),
  (16, .aload_n 0, 1, 0, [], [], []),
  (17, .getfield 9, 3, 2, [], [5, 0], []),
  (20, .iload_n 3, 1, 3, [], [], []),
  (21, .baload, 1, 0, [], [], []),
  (22, .iload_n 2, 1, 2, [], [], []),
  (23, .if_icmp .ne 5, 3, 28, [], [], []),
  (26, .iload_n 3, 1, 3, [], [], []),
  (27, .ireturn, 1, 0, [], [], []),
  (28, .iinc 3 1, 3, 3, [], [], []),
  (31, .goto (-23), 3, 8, [], [], []),
  (34, .iconst (-1), 1, 0, [], [], []),
  (35, .ireturn, 1, 0, [], [], [])], [(8, [true, false, true, true])])
def mX5_runCount : sM := (3, 1, [
  (0, .aload_n 0, 1, 0, [], [], []),
  (1, .getfield 19, 3, 0, [], [5, 2], []),
  (4, .ifCond .le 7, 3, 11, [], [], []),
  (7, .iconst 1, 1, 0, [], [], []),
  (8, .goto 4, 3, 12, [], [], []),
  (11, .iconst 0, 1, 0, [], [], []),
  (12, .istore_n 1, 1, 1, [], [], []),
  (13, .iconst 1, 1, 0, [], [], []),
  (14, .istore_n 2, 1, 2, [], [], []),
  (15, .iload_n 2, 1, 2, [], [], []),
  (16, .aload_n 0, 1, 0, [], [], []),
  (17, .getfield 19, 3, 0, [], [5, 2], []),
  (20, .if_icmp .ge 29, 3, 49, [], [], []),
  (23, .aload_n 0, 1, 0, [], [], []),
  (24, .getfield 9, 3, 2, [], [5, 0], []),
  (27, .iload_n 2, 1, 2, [], [], []),
  (28, .baload, 1, 0, [], [], []),
  (29, .aload_n 0, 1, 0, [], [], []),
  (30, .getfield 9, 3, 2, [], [5, 0], []),
  (33, .iload_n 2, 1, 2, [], [], []),
  (34, .iconst 1, 1, 0, [], [], []),
  (35, .isub, 1, 0, [], [], []),
  (36, .baload, 1, 0, [], [], []),
  (37, .if_icmp .eq 6, 3, 43, [], [], []),
  (40, .iinc 1 1, 3, 1, [], [], []),
  (43, .iinc 2 1, 3, 2, [], [], []),
  (46, .goto (-31), 3, 15, [], [], []),
  (49, .iload_n 1, 1, 1, [], [], []),
  (50, .ireturn, 1, 0, [], [], [])], [(15, [true, true, true])])
def mX5_longestRun : sM := (5, 1, [
  (0, .iconst 0, 1, 0, [], [], []),
  (1, .istore_n 2, 1, 2, [], [], []),
  (2, .iconst 0, 1, 0, [], [], []),
  (3, .istore_n 3, 1, 3, [], [], []),
  (4, .iconst 0, 1, 0, [], [], []),
  (5, .istore 4, 2, 4, [], [], []),
  (7, .iload 4, 2, 4, [], [], []),
  (9, .aload_n 0, 1, 0, [], [], []),
  (10, .getfield 19, 3, 0, [], [5, 2], []),
  (13, .if_icmp .ge 34, 3, 47, [], [], []),
  (16, .aload_n 0, 1, 0, [], [], []),
  (17, .getfield 9, 3, 2, [], [5, 0], []),
  (20, .iload 4, 2, 4, [], [], []),
  (22, .baload, 1, 0, [], [], []),
  (23, .iload_n 1, 1, 1, [], [], []),
  (24, .if_icmp .ne 9, 3, 33, [], [], []),
  (27, .iload_n 3, 1, 3, [], [], []),
  (28, .iconst 1, 1, 0, [], [], []),
  (29, .iadd, 1, 0, [], [], []),
  (30, .goto 4, 3, 34, [], [], []),
  (33, .iconst 0, 1, 0, [], [], []),
  (34, .istore_n 3, 1, 3, [], [], []),
  (35, .iload_n 2, 1, 2, [], [], []),
  (36, .iload_n 3, 1, 3, [], [], []),
  (37, .invokestatic 36, 3, 0, [1], [], []),
  (40, .istore_n 2, 1, 2, [], [], []),
  (41, .iinc 4 1, 3, 4, [], [], []),
  (44, .goto (-37), 3, 7, [], [], []),
  (47, .iload_n 2, 1, 2, [], [], []),
  (48, .ireturn, 1, 0, [], [], [])], [(7, [true, true, true, true, true])])
def mX5_wordFrom : sM := (4, 1, [
  (0, .iconst 0, 1, 0, [], [], []),
  (1, .istore_n 2, 1, 2, [], [], []),
  (2, .iload_n 1, 1, 1, [], [], []),
  (3, .istore_n 3, 1, 3, [], [], []),
  (4, .iload_n 3, 1, 3, [], [], []),
  (5, .iload_n 1, 1, 1, [], [], []),
  (6, .bipush 32, 2, 0, [], [], []),
  (8, .iadd, 1, 0, [], [], []),
  (9, .if_icmp .ge 28, 3, 37, [], [], []),
  (12, .iload_n 2, 1, 2, [], [], []),
  (13, .iconst 1, 1, 0, [], [], []),
  (14, .ishl, 1, 0, [], [], []),
  (15, .aload_n 0, 1, 0, [], [], []),
  (16, .iload_n 3, 1, 3, [], [], []),
  (17, .invokevirtual 42, 3, 34, [1, 1], [5], []),
  (20, .iconst 1, 1, 0, [], [], []),
  (21, .if_icmp .ne 7, 3, 28, [], [], []),
  (24, .iconst 1, 1, 0, [], [], []),
  (25, .goto 4, 3, 29, [], [], []),
  (28, .iconst 0, 1, 0, [], [], []),
  (29, .ior, 1, 0, [], [], []),
  (30, .istore_n 2, 1, 2, [], [], []),
  (31, .iinc 3 1, 3, 3, [], [], []),
  (34, .goto (-30), 3, 4, [], [], []),
  (37, .iload_n 2, 1, 2, [], [], []),
  (38, .ireturn, 1, 0, [], [], [])], [(4, [true, true, true, true])])
def mX5_sumOfPlaces : sM := (3, 1, [
  (0, .iconst 0, 1, 0, [], [], []),
  (1, .istore_n 1, 1, 1, [], [], []),
  (2, .iconst 0, 1, 0, [], [], []),
  (3, .istore_n 2, 1, 2, [], [], []),
  (4, .iload_n 2, 1, 2, [], [], []),
  (5, .aload_n 0, 1, 0, [], [], []),
  (6, .getfield 19, 3, 0, [], [5, 2], []),
  (9, .if_icmp .ge 27, 3, 36, [], [], []),
  (12, .iload_n 1, 1, 1, [], [], []),
  (13, .aload_n 0, 1, 0, [], [], []),
  (14, .getfield 9, 3, 2, [], [5, 0], []),
  (17, .iload_n 2, 1, 2, [], [], []),
  (18, .baload, 1, 0, [], [], []),
  (19, .iconst 1, 1, 0, [], [], []),
  (20, .if_icmp .ne 7, 3, 27, [], [], []),
  (23, .iload_n 2, 1, 2, [], [], []),
  (24, .goto 4, 3, 28, [], [], []),
  (27, .iconst 0, 1, 0, [], [], []),
  (28, .iadd, 1, 0, [], [], []),
  (29, .istore_n 1, 1, 1, [], [], []),
  (30, .iinc 2 1, 3, 2, [], [], []),
  (33, .goto (-29), 3, 4, [], [], []),
  (36, .iload_n 1, 1, 1, [], [], []),
  (37, .ireturn, 1, 0, [], [], [])], [(4, [true, true, true])])
def mX5_unlikeBits : sM := (5, 1, [
  (0, .aload_n 0, 1, 0, [], [], []),
  (1, .getfield 19, 3, 0, [], [5, 2], []),
  (4, .aload_n 1, 1, 1, [], [], []),
  (5, .getfield 19, 3, 0, [], [5, 2], []),
  (8, .invokestatic 46, 3, 0, [2], [], []),
  (11, .istore_n 2, 1, 2, [], [], []),
  (12, .aload_n 0, 1, 0, [], [], []),
  (13, .getfield 19, 3, 0, [], [5, 2], []),
  (16, .aload_n 1, 1, 1, [], [], []),
  (17, .getfield 19, 3, 0, [], [5, 2], []),
  (20, .invokestatic 36, 3, 0, [1], [], []),
  (23, .iload_n 2, 1, 2, [], [], []),
  (24, .isub, 1, 0, [], [], []),
  (25, .istore_n 3, 1, 3, [], [], []),
  (26, .iconst 0, 1, 0, [], [], []),
  (27, .istore 4, 2, 4, [], [], []),
  (29, .iload 4, 2, 4, [], [], []),
  (31, .iload_n 2, 1, 2, [], [], []),
  (32, .if_icmp .ge 29, 3, 61, [], [], []),
  (35, .aload_n 0, 1, 0, [], [], []),
  (36, .getfield 9, 3, 2, [], [5, 0], []),
  (39, .iload 4, 2, 4, [], [], []),
  (41, .baload, 1, 0, [], [], []),
  (42, .aload_n 1, 1, 1, [], [], []),
  (43, .getfield 9, 3, 2, [], [5, 0], []),
  (46, .iload 4, 2, 4, [], [], []),
  (48, .baload, 1, 0, [], [], []),
  (49, .if_icmp .eq 6, 3, 55, [], [], []),
  (52, .iinc 3 1, 3, 3, [], [], []),
  (55, .iinc 4 1, 3, 4, [], [], []),
  (58, .goto (-29), 3, 29, [], [], []),
  (61, .iload_n 3, 1, 3, [], [], []),
  (62, .ireturn, 1, 0, [], [], [])], [(29, [true, true, true, true, true])])
def mX5_firstUnlike : sM := (4, 1, [
  (0, .aload_n 0, 1, 0, [], [], []),
  (1, .getfield 19, 3, 0, [], [5, 2], []),
  (4, .aload_n 1, 1, 1, [], [], []),
  (5, .getfield 19, 3, 0, [], [5, 2], []),
  (8, .invokestatic 46, 3, 0, [2], [], []),
  (11, .istore_n 2, 1, 2, [], [], []),
  (12, .iconst 0, 1, 0, [], [], []),
  (13, .istore_n 3, 1, 3, [], [], []),
  (14, .iload_n 3, 1, 3, [], [], []),
  (15, .iload_n 2, 1, 2, [], [], []),
  (16, .if_icmp .ge 26, 3, 42, [], [], []),
  (19, .aload_n 0, 1, 0, [], [], []),
  (20, .getfield 9, 3, 2, [], [5, 0], []),
  (23, .iload_n 3, 1, 3, [], [], []),
  (24, .baload, 1, 0, [], [], []),
  (25, .aload_n 1, 1, 1, [], [], []),
  (26, .getfield 9, 3, 2, [], [5, 0], []),
  (29, .iload_n 3, 1, 3, [], [], []),
  (30, .baload, 1, 0, [], [], []),
  (31, .if_icmp .eq 5, 3, 36, [], [], []),
  (34, .iload_n 3, 1, 3, [], [], []),
  (35, .ireturn, 1, 0, [], [], []),
  (36, .iinc 3 1, 3, 3, [], [], []),
  (39, .goto (-25), 3, 14, [], [], []),
  (42, .aload_n 0, 1, 0, [], [], []),
  (43, .getfield 19, 3, 0, [], [5, 2], []),
  (46, .aload_n 1, 1, 1, [], [], []),
  (47, .getfield 19, 3, 0, [], [5, 2], []),
  (50, .if_icmp .ne 7, 3, 57, [], [], []),
  (53, .iconst (-1), 1, 0, [], [], []),
  (54, .goto 4, 3, 58, [], [], []),
  (57, .iload_n 2, 1, 2, [], [], []),
  (58, .ireturn, 1, 0, [], [], [])], [(14, [true, true, true, true])])
def mX5_beginsWith : sM := (3, 4, [
  (0, .aload_n 0, 1, 0, [], [], []),
  (1, .aload_n 1, 1, 1, [], [], []),
  (2, .invokevirtual 49, 3, 43, [1, 1], [5], []),
  (5, .istore_n 2, 1, 2, [], [], []),
  (6, .iload_n 2, 1, 2, [], [], []),
  (7, .iconst (-1), 1, 0, [], [], []),
  (8, .if_icmp .eq 11, 3, 19, [], [], []),
  (11, .iload_n 2, 1, 2, [], [], []),
  (12, .aload_n 1, 1, 1, [], [], []),
  (13, .getfield 19, 3, 0, [], [5, 2], []),
  (16, .if_icmp .ne 7, 3, 23, [], [], []),
  (19, .iconst 1, 1, 0, [], [], []),
  (20, .goto 4, 3, 24, [], [], []),
  (23, .iconst 0, 1, 0, [], [], []),
  (24, .ireturn, 1, 0, [], [], [])], [])
def mX5_hasAt : sM := (5, 4, [
  (0, .aload_n 0, 1, 0, [], [], []),
  (1, .iload_n 1, 1, 1, [], [], []),
  (2, .iload_n 3, 1, 3, [], [], []),
  (3, .invokevirtual 32, 3, 33, [4, 2], [5], []),
  (6, .ifCond .eq 9, 3, 15, [], [], []),
  (9, .iload_n 3, 1, 3, [], [], []),
  (10, .aload_n 2, 1, 2, [], [], []),
  (11, .arraylength, 1, 0, [], [], []),
  (12, .if_icmp .le 5, 3, 17, [], [], []),
  (15, .iconst 0, 1, 0, [], [], []),
  (16, .ireturn, 1, 0, [], [], []),
  (17, .iconst 0, 1, 0, [], [], []),
  (18, .istore 4, 2, 4, [], [], []),
  (20, .iload 4, 2, 4, [], [], []),
  (22, .iload_n 3, 1, 3, [], [], []),
  (23, .if_icmp .ge 27, 3, 50, [], [], []),
  (26, .aload_n 0, 1, 0, [], [], []),
  (27, .getfield 9, 3, 2, [], [5, 0], []),
  (30, .iload_n 1, 1, 1, [], [], []),
  (31, .iload 4, 2, 4, [], [], []),
  (33, .iadd, 1, 0, [], [], []),
  (34, .baload, 1, 0, [], [], []),
  (35, .aload_n 2, 1, 2, [], [], []),
  (36, .iload 4, 2, 4, [], [], []),
  (38, .iaload, 1, 0, [], [], []),
  (39, .if_icmp .eq 5, 3, 44, [], [], []),
  (42, .iconst 0, 1, 0, [], [], []),
  (43, .ireturn, 1, 0, [], [], []),
  (44, .iinc 4 1, 3, 4, [], [], []),
  (47, .goto (-27), 3, 20, [], [], []),
  (50, .iconst 1, 1, 0, [], [], []),
  (51, .ireturn, 1, 0, [], [], [])], [(20, [true, true, true, true, true])])
def mX5_leafStart : sM := (4, 1, [
  (0, .iconst 0, 1, 0, [], [], []),
  (1, .istore_n 2, 1, 2, [], [], []),
  (2, .iconst 0, 1, 0, [], [], []),
  (3, .istore_n 3, 1, 3, [], [], []),
  (4, .iload_n 3, 1, 3, [], [], []),
  (5, .iload_n 1, 1, 1, [], [], []),
  (6, .if_icmp .ge 26, 3, 32, [], [], []),
  (9, .iload_n 3, 1, 3, [], [], []),
  (10, .aload_n 0, 1, 0, [], [], []),
  (11, .getfield 23, 3, 0, [], [5, 3], []),
  (14, .if_icmp .ge 18, 3, 32, [], [], []),
  (17, .iload_n 2, 1, 2, [], [], []),
  (18, .aload_n 0, 1, 0, [], [], []),
  (19, .getfield 15, 3, 2, [], [5, 1], []),
  (22, .iload_n 3, 1, 3, [], [], []),
  (23, .iaload, 1, 0, [], [], []),
  (24, .iadd, 1, 0, [], [], []),
  (25, .istore_n 2, 1, 2, [], [], []),
  (26, .iinc 3 1, 3, 3, [], [], []),
  (29, .goto (-25), 3, 4, [], [], []),
  (32, .iload_n 2, 1, 2, [], [], []),
  (33, .ireturn, 1, 0, [], [], [])], [(4, [true, true, true, true])])
def mX5_leafWith : sM := (5, 1, [
  (0, .aload_n 0, 1, 0, [], [], []),
  (1, .getfield 23, 3, 0, [], [5, 3], []),
  (4, .iconst 1, 1, 0, [], [], []),
  (5, .isub, 1, 0, [], [], []),
  (6, .iconst 0, 1, 0, [], [], []),
  (7, .invokestatic 36, 3, 0, [1], [], []),
  (10, .istore_n 2, 1, 2, [], [], []),
  (11, .iload_n 1, 1, 1, [], [], []),
  (12, .aload_n 0, 1, 0, [], [], []),
  (13, .getfield 19, 3, 0, [], [5, 2], []),
  (16, .aload_n 0, 1, 0, [], [], []),
  (17, .getfield 15, 3, 2, [], [5, 1], []),
  (20, .iload_n 2, 1, 2, [], [], []),
  (21, .iaload, 1, 0, [], [], []),
  (22, .isub, 1, 0, [], [], []),
  (23, .if_icmp .lt 5, 3, 28, [], [], []),
  (26, .iload_n 2, 1, 2, [], [], []),
  (27, .ireturn, 1, 0, [], [], []),
  (28, .iconst 0, 1, 0, [], [], []),
  (29, .istore_n 3, 1, 3, [], [], []),
  (30, .iconst 0, 1, 0, [], [], []),
  (31, .istore 4, 2, 4, [], [], []),
  (33, .iload 4, 2, 4, [], [], []),
  (35, .iload_n 2, 1, 2, [], [], []),
  (36, .if_icmp .ge 27, 3, 63, [], [], []),
  (39, .iload_n 3, 1, 3, [], [], []),
  (40, .aload_n 0, 1, 0, [], [], []),
  (41, .getfield 15, 3, 2, [], [5, 1], []),
  (44, .iload 4, 2, 4, [], [], []),
  (46, .iaload, 1, 0, [], [], []),
  (47, .iadd, 1, 0, [], [], []),
  (48, .istore_n 3, 1, 3, [], [], []),
  (49, .iload_n 1, 1, 1, [], [], []),
  (50, .iload_n 3, 1, 3, [], [], []),
  (51, .if_icmp .ge 6, 3, 57, [], [], []),
  (54, .iload 4, 2, 4, [], [], []),
  (56, .ireturn, 1, 0, [], [], []),
  (57, .iinc 4 1, 3, 4, [], [], []),
  (60, .goto (-27), 3, 33, [], [], []),
  (63, .iload_n 2, 1, 2, [], [], []),
  (64, .ireturn, 1, 0, [], [], [])], [(33, [true, true, true, true, true])])
def mX5_insert : sM := (5, 0, [
  (0, .aload_n 0, 1, 0, [], [], []),
  (1, .iload_n 1, 1, 1, [], [], []),
  (2, .invokevirtual 53, 3, 32, [4, 1], [5], []),
  (5, .ifCond .eq 13, 3, 18, [], [], []),
  (8, .aload_n 0, 1, 0, [], [], []),
  (9, .getfield 19, 3, 0, [], [5, 2], []),
  (12, .sipush 600, 3, 0, [], [], []),
  (15, .if_icmp .lt 4, 3, 19, [], [], []),
  (18, .return_, 1, 0, [], [], []),
  (19, .aload_n 0, 1, 0, [], [], []),
  (20, .getfield 23, 3, 0, [], [5, 3], []),
  (23, .ifCond .ne 15, 3, 38, [], [], []),
  (26, .aload_n 0, 1, 0, [], [], []),
  (27, .getfield 15, 3, 2, [], [5, 1], []),
  (30, .iconst 0, 1, 0, [], [], []),
  (31, .iconst 0, 1, 0, [], [], []),
  (32, .iastore, 1, 0, [], [], []),
  (33, .aload_n 0, 1, 0, [], [], []),
  (34, .iconst 1, 1, 0, [], [], []),
  (35, .putfield 23, 3, 0, [], [5, 3], []),
  (38, .aload_n 0, 1, 0, [], [], []),
  (39, .iload_n 1, 1, 1, [], [], []),
  (40, .ifCond .ne 7, 3, 47, [], [], []),
  (43, .iconst 0, 1, 0, [], [], []),
  (44, .goto 6, 3, 50, [], [], []),
  (47, .iload_n 1, 1, 1, [], [], []),
  (48, .iconst 1, 1, 0, [], [], []),
  (49, .isub, 1, 0, [], [], []),
  (50, .invokevirtual 57, 3, 47, [1, 1], [5], []),
  (53, .istore 4, 2, 4, [], [], []),
  (55, .aload_n 0, 1, 0, [], [], []),
  (56, .getfield 15, 3, 2, [], [5, 1], []),
  (59, .iload 4, 2, 4, [], [], []),
  (61, .dup2, 1, 0, [], [], []),
  (62, .iaload, 1, 0, [], [], []),
  (63, .iconst 1, 1, 0, [], [], []),
  (64, .iadd, 1, 0, [], [], []),
  (65, .iastore, 1, 0, [], [], []),
  (66, .aload_n 0, 1, 0, [], [], []),
  (67, .iload 4, 2, 4, [], [], []),
  (69, .iload_n 3, 1, 3, [], [], []),
  (70, .invokevirtual 60, 3, 49, [0, 2], [5], []),
  (73, .aload_n 0, 1, 0, [], [], []),
  (74, .getfield 9, 3, 2, [], [5, 0], []),
  (77, .iload_n 1, 1, 1, [], [], []),
  (78, .aload_n 0, 1, 0, [], [], []),
  (79, .getfield 9, 3, 2, [], [5, 0], []),
  (82, .iload_n 1, 1, 1, [], [], []),
  (83, .iconst 1, 1, 0, [], [], []),
  (84, .iadd, 1, 0, [], [], []),
  (85, .aload_n 0, 1, 0, [], [], []),
  (86, .getfield 19, 3, 0, [], [5, 2], []),
  (89, .iload_n 1, 1, 1, [], [], []),
  (90, .isub, 1, 0, [], [], []),
  (91, .invokestatic 26, 3, 0, [0], [], []),
  (94, .aload_n 0, 1, 0, [], [], []),
  (95, .getfield 9, 3, 2, [], [5, 0], []),
  (98, .iload_n 1, 1, 1, [], [], []),
  (99, .iload_n 2, 1, 2, [], [], []),
  (100, .i2b, 1, 0, [], [], []),
  (101, .bastore, 1, 0, [], [], []),
  (102, .aload_n 0, 1, 0, [], [], []),
  (103, .dup, 1, 0, [], [], []),
  (104, .getfield 19, 3, 0, [], [5, 2], []),
  (107, .iconst 1, 1, 0, [], [], []),
  (108, .iadd, 1, 0, [], [], []),
  (109, .putfield 19, 3, 0, [], [5, 2], []),
  (112, .return_, 1, 0, [], [], [])], [(50, [true, true, true, true, false])])
def mX5_halveIfTooBig : sM := (4, 0, [
  (0, .aload_n 0, 1, 0, [], [], []),
  (1, .getfield 15, 3, 2, [], [5, 1], []),
  (4, .iload_n 1, 1, 1, [], [], []),
  (5, .iaload, 1, 0, [], [], []),
  (6, .istore_n 3, 1, 3, [], [], []),
  (7, .iload_n 3, 1, 3, [], [], []),
  (8, .iconst 2, 1, 0, [], [], []),
  (9, .iload_n 2, 1, 2, [], [], []),
  (10, .imul, 1, 0, [], [], []),
  (11, .if_icmp .le 13, 3, 24, [], [], []),
  (14, .aload_n 0, 1, 0, [], [], []),
  (15, .getfield 23, 3, 0, [], [5, 3], []),
  (18, .sipush 152, 3, 0, [], [], []),
  (21, .if_icmp .lt 4, 3, 25, [], [], []),
  (24, .return_, 1, 0, [], [], []),
  (25, .aload_n 0, 1, 0, [], [], []),
  (26, .getfield 15, 3, 2, [], [5, 1], []),
  (29, .iload_n 1, 1, 1, [], [], []),
  (30, .iconst 1, 1, 0, [], [], []),
  (31, .iadd, 1, 0, [], [], []),
  (32, .aload_n 0, 1, 0, [], [], []),
  (33, .getfield 15, 3, 2, [], [5, 1], []),
  (36, .iload_n 1, 1, 1, [], [], []),
  (37, .iconst 2, 1, 0, [], [], []),
  (38, .iadd, 1, 0, [], [], []),
  (39, .aload_n 0, 1, 0, [], [], []),
  (40, .getfield 23, 3, 0, [], [5, 3], []),
  (43, .iload_n 1, 1, 1, [], [], []),
  (44, .isub, 1, 0, [], [], []),
  (45, .iconst 1, 1, 0, [], [], []),
  (46, .isub, 1, 0, [], [], []),
  (47, .invokestatic 26, 3, 0, [0], [], []),
  (50, .aload_n 0, 1, 0, [], [], []),
  (51, .getfield 15, 3, 2, [], [5, 1], []),
  (54, .iload_n 1, 1, 1, [], [], []),
  (55, .iload_n 3, 1, 3, [], [], []),
  (56, .iload_n 3, 1, 3, [], [], []),
  (57, .iconst 2, 1, 0, [], [], []),
  (58, .idiv, 1, 0, [], [], []),
  (59, .isub, 1, 0, [], [], []),
  (60, .iastore, 1, 0, [], [], []),
  (61, .aload_n 0, 1, 0, [], [], []),
  (62, .getfield 15, 3, 2, [], [5, 1], []),
  (65, .iload_n 1, 1, 1, [], [], []),
  (66, .iconst 1, 1, 0, [], [], []),
  (67, .iadd, 1, 0, [], [], []),
  (68, .iload_n 3, 1, 3, [], [], []),
  (69, .iconst 2, 1, 0, [], [], []),
  (70, .idiv, 1, 0, [], [], []),
  (71, .iastore, 1, 0, [], [], []),
  (72, .aload_n 0, 1, 0, [], [], []),
  (73, .dup, 1, 0, [], [], []),
  (74, .getfield 23, 3, 0, [], [5, 3], []),
  (77, .iconst 1, 1, 0, [], [], []),
  (78, .iadd, 1, 0, [], [], []),
  (79, .putfield 23, 3, 0, [], [5, 3], []),
  (82, .return_, 1, 0, [], [], [])], [])
def mX5_remove : sM := (6, 0, [
  (0, .aload_n 0, 1, 0, [], [], []),
  (1, .iload_n 1, 1, 1, [], [], []),
  (2, .iload_n 2, 1, 2, [], [], []),
  (3, .invokevirtual 32, 3, 33, [4, 2], [5], []),
  (6, .ifCond .ne 4, 3, 10, [], [], []),
  (9, .return_, 1, 0, [], [], []),
  (10, .aload_n 0, 1, 0, [], [], []),
  (11, .getfield 9, 3, 2, [], [5, 0], []),
  (14, .iload_n 1, 1, 1, [], [], []),
  (15, .iload_n 2, 1, 2, [], [], []),
  (16, .iadd, 1, 0, [], [], []),
  (17, .aload_n 0, 1, 0, [], [], []),
  (18, .getfield 9, 3, 2, [], [5, 0], []),
  (21, .iload_n 1, 1, 1, [], [], []),
  (22, .aload_n 0, 1, 0, [], [], []),
  (23, .getfield 19, 3, 0, [], [5, 2], []),
  (26, .iload_n 1, 1, 1, [], [], []),
  (27, .isub, 1, 0, [], [], []),
  (28, .iload_n 2, 1, 2, [], [], []),
  (29, .isub, 1, 0, [], [], []),
  (30, .invokestatic 26, 3, 0, [0], [], []),
  (33, .iconst 0, 1, 0, [], [], []),
  (34, .istore 4, 2, 4, [], [], []),
  (36, .iload 4, 2, 4, [], [], []),
  (38, .iload_n 2, 1, 2, [], [], []),
  (39, .if_icmp .ge 72, 3, 111, [], [], []),
  (42, .aload_n 0, 1, 0, [], [], []),
  (43, .iload_n 1, 1, 1, [], [], []),
  (44, .invokevirtual 57, 3, 47, [1, 1], [5], []),
  (47, .istore 5, 2, 5, [], [], []),
  (49, .aload_n 0, 1, 0, [], [], []),
  (50, .getfield 15, 3, 2, [], [5, 1], []),
  (53, .iload 5, 2, 5, [], [], []),
  (55, .dup2, 1, 0, [], [], []),
  (56, .iaload, 1, 0, [], [], []),
  (57, .iconst 1, 1, 0, [], [], []),
  (58, .isub, 1, 0, [], [], []),
  (59, .iastore, 1, 0, [], [], []),
  (60, .aload_n 0, 1, 0, [], [], []),
  (61, .dup, 1, 0, [], [], []),
  (62, .getfield 19, 3, 0, [], [5, 2], []),
  (65, .iconst 1, 1, 0, [], [], []),
  (66, .isub, 1, 0, [], [], []),
  (67, .putfield 19, 3, 0, [], [5, 2], []),
  (70, .aload_n 0, 1, 0, [], [], []),
  (71, .getfield 15, 3, 2, [], [5, 1], []),
  (74, .iload 5, 2, 5, [], [], []),
  (76, .iaload, 1, 0, [], [], []),
  (77, .iload_n 3, 1, 3, [], [], []),
  (78, .if_icmp .ge 27, 3, 105, [], [], []),
  (81, .aload_n 0, 1, 0, [], [], []),
  (82, .getfield 23, 3, 0, [], [5, 3], []),
  (85, .iconst 1, 1, 0, [], [], []),
  (86, .if_icmp .le 19, 3, 105, [], [], []),
  (89, .aload_n 0, 1, 0, [], [], []),
  (90, .iload 5, 2, 5, [], [], []),
  (92, .aload_n 0, 1, 0, [], [], []),
  (93, .getfield 23, 3, 0, [], [5, 3], []),
  (96, .iconst 2, 1, 0, [], [], []),
  (97, .isub, 1, 0, [], [], []),
  (98, .invokestatic 46, 3, 0, [2], [], []),
  (101, .iload_n 3, 1, 3, [], [], []),
  (102, .invokevirtual 64, 3, 51, [0, 2], [5], []),
  (105, .iinc 4 1, 3, 4, [], [], []),
  (108, .goto (-72), 3, 36, [], [], []),
  (111, .aload_n 0, 1, 0, [], [], []),
  (112, .getfield 19, 3, 0, [], [5, 2], []),
  (115, .ifCond .ne 8, 3, 123, [], [], []),
  (118, .aload_n 0, 1, 0, [], [], []),
  (119, .iconst 0, 1, 0, [], [], []),
  (120, .putfield 23, 3, 0, [], [5, 3], []),
  (123, .return_, 1, 0, [], [], [])], [(36, [true, true, true, true, true, false])])
def mX5_mergeWithNext : sM := (3, 0, [
  (0, .aload_n 0, 1, 0, [], [], []),
  (1, .getfield 15, 3, 2, [], [5, 1], []),
  (4, .iload_n 1, 1, 1, [], [], []),
  (5, .dup2, 1, 0, [], [], []),
  (6, .iaload, 1, 0, [], [], []),
  (7, .aload_n 0, 1, 0, [], [], []),
  (8, .getfield 15, 3, 2, [], [5, 1], []),
  (11, .iload_n 1, 1, 1, [], [], []),
  (12, .iconst 1, 1, 0, [], [], []),
  (13, .iadd, 1, 0, [], [], []),
  (14, .iaload, 1, 0, [], [], []),
  (15, .iadd, 1, 0, [], [], []),
  (16, .iastore, 1, 0, [], [], []),
  (17, .aload_n 0, 1, 0, [], [], []),
  (18, .getfield 15, 3, 2, [], [5, 1], []),
  (21, .iload_n 1, 1, 1, [], [], []),
  (22, .iconst 2, 1, 0, [], [], []),
  (23, .iadd, 1, 0, [], [], []),
  (24, .aload_n 0, 1, 0, [], [], []),
  (25, .getfield 15, 3, 2, [], [5, 1], []),
  (28, .iload_n 1, 1, 1, [], [], []),
  (29, .iconst 1, 1, 0, [], [], []),
  (30, .iadd, 1, 0, [], [], []),
  (31, .aload_n 0, 1, 0, [], [], []),
  (32, .getfield 23, 3, 0, [], [5, 3], []),
  (35, .iload_n 1, 1, 1, [], [], []),
  (36, .isub, 1, 0, [], [], []),
  (37, .iconst 2, 1, 0, [], [], []),
  (38, .isub, 1, 0, [], [], []),
  (39, .invokestatic 26, 3, 0, [0], [], []),
  (42, .aload_n 0, 1, 0, [], [], []),
  (43, .dup, 1, 0, [], [], []),
  (44, .getfield 23, 3, 0, [], [5, 3], []),
  (47, .iconst 1, 1, 0, [], [], []),
  (48, .isub, 1, 0, [], [], []),
  (49, .putfield 23, 3, 0, [], [5, 3], []),
  (52, .aload_n 0, 1, 0, [], [], []),
  (53, .iload_n 1, 1, 1, [], [], []),
  (54, .iload_n 2, 1, 2, [], [], []),
  (55, .invokevirtual 60, 3, 49, [0, 2], [5], []),
  (58, .return_, 1, 0, [], [], [])], [])
def mX5_turnOver : sM := (4, 0, [
  (0, .aload_n 0, 1, 0, [], [], []),
  (1, .iload_n 1, 1, 1, [], [], []),
  (2, .iload_n 2, 1, 2, [], [], []),
  (3, .invokevirtual 32, 3, 33, [4, 2], [5], []),
  (6, .ifCond .ne 4, 3, 10, [], [], []),
  (9, .return_, 1, 0, [], [], []),
  (10, .iload_n 1, 1, 1, [], [], []),
  (11, .istore_n 3, 1, 3, [], [], []),
  (12, .iload_n 3, 1, 3, [], [], []),
  (13, .iload_n 1, 1, 1, [], [], []),
  (14, .iload_n 2, 1, 2, [], [], []),
  (15, .iadd, 1, 0, [], [], []),
  (16, .if_icmp .ge 24, 3, 40, [], [], []),
  (19, .aload_n 0, 1, 0, [], [], []),
  (20, .getfield 9, 3, 2, [], [5, 0], []),
  (23, .iload_n 3, 1, 3, [], [], []),
  (24, .iconst 1, 1, 0, [], [], []),
  (25, .aload_n 0, 1, 0, [], [], []),
  (26, .getfield 9, 3, 2, [], [5, 0], []),
  (29, .iload_n 3, 1, 3, [], [], []),
  (30, .baload, 1, 0, [], [], []),
  (31, .isub, 1, 0, [], [], []),
  (32, .i2b, 1, 0, [], [], []),
  (33, .bastore, 1, 0, [], [], []),
  (34, .iinc 3 1, 3, 3, [], [], []),
  (37, .goto (-25), 3, 12, [], [], []),
  (40, .return_, 1, 0, [], [], [])], [(12, [true, true, true, true])])
def mX5_append : sM := (5, 0, [
  (0, .iload_n 2, 1, 2, [], [], []),
  (1, .istore 4, 2, 4, [], [], []),
  (3, .iload 4, 2, 4, [], [], []),
  (5, .ifCond .lt 34, 3, 39, [], [], []),
  (8, .iload 4, 2, 4, [], [], []),
  (10, .aload_n 1, 1, 1, [], [], []),
  (11, .getfield 19, 3, 0, [], [5, 2], []),
  (14, .if_icmp .ge 25, 3, 39, [], [], []),
  (17, .aload_n 0, 1, 0, [], [], []),
  (18, .aload_n 0, 1, 0, [], [], []),
  (19, .getfield 19, 3, 0, [], [5, 2], []),
  (22, .aload_n 1, 1, 1, [], [], []),
  (23, .getfield 9, 3, 2, [], [5, 0], []),
  (26, .iload 4, 2, 4, [], [], []),
  (28, .baload, 1, 0, [], [], []),
  (29, .iload_n 3, 1, 3, [], [], []),
  (30, .invokevirtual 67, 3, 48, [0, 3], [5], []),
  (33, .iinc 4 1, 3, 4, [], [], []),
  (36, .goto (-33), 3, 3, [], [], []),
  (39, .return_, 1, 0, [], [], [])], [(3, [true, true, false, true, true])])
def mX6_init : sM := (1, 0, [
  (0, .aload_n 0, 1, 0, [], [], []),
  (1, .invokespecial 3, 3, 0, [], [6], []),
  (4, .aload_n 0, 1, 0, [], [], []),
  (5, .sipush 200, 3, 0, [], [], []),
  (8, .newarray .byte, 2, 0, [], [21], []),
  (10, .putfield 9, 3, 2, [], [6, 0], []),
  (13, .return_, 1, 0, [], [], [])], [])
def mX6_copyFrom : sM := (2, 0, [
  (0, .aload_n 1, 1, 1, [], [], []),
  (1, .getfield 9, 3, 2, [], [6, 0], []),
  (4, .iconst 0, 1, 0, [], [], []),
  (5, .aload_n 0, 1, 0, [], [], []),
  (6, .getfield 9, 3, 2, [], [6, 0], []),
  (9, .iconst 0, 1, 0, [], [], []),
  (10, .aload_n 1, 1, 1, [], [], []),
  (11, .getfield 15, 3, 0, [], [6, 1], []),
  (14, .invokestatic 19, 3, 0, [0], [], []),
  (17, .aload_n 0, 1, 0, [], [], []),
  (18, .aload_n 1, 1, 1, [], [], []),
  (19, .getfield 15, 3, 0, [], [6, 1], []),
  (22, .putfield 15, 3, 0, [], [6, 1], []),
  (25, .return_, 1, 0, [], [], [])], [])
def mX6_signAt : sM := (2, 1, [
  (0, .iload_n 1, 1, 1, [], [], []),
  (1, .ifCond .lt 11, 3, 12, [], [], []),
  (4, .iload_n 1, 1, 1, [], [], []),
  (5, .aload_n 0, 1, 0, [], [], []),
  (6, .getfield 15, 3, 0, [], [6, 1], []),
  (9, .if_icmp .lt 7, 3, 16, [], [], []),
  (12, .iconst (-1), 1, 0, [], [], []),
  (13, .goto 9, 3, 22, [], [], []),
  (16, .aload_n 0, 1, 0, [], [], []),
  (17, .getfield 9, 3, 2, [], [6, 0], []),
  (20, .iload_n 1, 1, 1, [], [], []),
  (21, .baload, 1, 0, [], [], []),
  (22, .ireturn, 1, 0, [], [], [])], [])
def mX6_hasRange : sM := (3, 4, [
  (0, .iload_n 1, 1, 1, [], [], []),
  (1, .ifCond .lt 21, 3, 22, [], [], []),
  (4, .iload_n 2, 1, 2, [], [], []),
  (5, .ifCond .lt 17, 3, 22, [], [], []),
  (8, .iload_n 1, 1, 1, [], [], []),
  (9, .aload_n 0, 1, 0, [], [], []),
  (10, .getfield 15, 3, 0, [], [6, 1], []),
  (13, .iload_n 2, 1, 2, [], [], []),
  (14, .isub, 1, 0, [], [], []),
  (15, .if_icmp .gt 7, 3, 22, [], [], []),
  (18, .iconst 1, 1, 0, [], [], []),
  (19, .goto 4, 3, 23, [], [], []),
  (22, .iconst 0, 1, 0, [], [], []),
  (23, .ireturn, 1, 0, [], [], [])], [])
def mX6_countIn : sM := (6, 1, [
  (0, .iconst 0, 1, 0, [], [], []),
  (1, .istore 4, 2, 4, [], [], []),
  (3, .iload_n 1, 1, 1, [], [], []),
  (4, .iconst 0, 1, 0, [], [], []),
  (5, .invokestatic 25, 3, 0, [1], [], []),
  (8, .istore 5, 2, 5, [], [], []),
  (10, .iload 5, 2, 5, [], [], []),
  (12, .iload_n 2, 1, 2, [], [], []),
  (13, .if_icmp .ge 32, 3, 45, [], [], []),
  (16, .iload 5, 2, 5, [], [], []),
  (18, .aload_n 0, 1, 0, [], [], []),
  (19, .getfield 15, 3, 0, [], [6, 1], []),
  (22, .if_icmp .ge 23, 3, 45, [], [], []),
  (25, .aload_n 0, 1, 0, [], [], []),
  (26, .getfield 9, 3, 2, [], [6, 0], []),
  (29, .iload 5, 2, 5, [], [], []),
  (31, .baload, 1, 0, [], [], []),
  (32, .iload_n 3, 1, 3, [], [], []),
  (33, .if_icmp .ne 6, 3, 39, [], [], []),
  (36, .iinc 4 1, 3, 4, [], [], []),
  (39, .iinc 5 1, 3, 5, [], [], []),
  (42, .goto (-32), 3, 10, [], [], []),
  (45, .iload 4, 2, 4, [], [], []),
  (47, .ireturn, 1, 0, [], [], [])], [(10, [true, false, true, true, true, true])])
def mX6_placeOf : sM := (5, 1, [
  (0, .iconst 0, 1, 0, [], [], []),
  (1, .istore_n 3, 1, 3, [], [], []),
  (2, .iconst 0, 1, 0, [], [], []),
  (3, .istore 4, 2, 4, [], [], []),
  (5, .iload 4, 2, 4, [], [], []),
  (7, .aload_n 0, 1, 0, [], [], []),
  (8, .getfield 15, 3, 0, [], [6, 1], []),
  (11, .if_icmp .ge 31, 3, 42, [], [], []),
  (14, .aload_n 0, 1, 0, [], [], []),
  (15, .getfield 9, 3, 2, [], [6, 0], []),
  (18, .iload 4, 2, 4, [], [], []),
  (20, .baload, 1, 0, [], [], []),
  (21, .iload_n 1, 1, 1, [], [], []),
  (22, .if_icmp .ne 14, 3, 36, [], [], []),
  (25, .iload_n 3, 1, 3, [], [], []),
  (26, .iload_n 2, 1, 2, [], [], []),
  (27, .if_icmp .ne 6, 3, 33, [], [], []),
  (30, .iload 4, 2, 4, [], [], []),
  (32, .ireturn, 1, 0, [], [], []),
  (33, .iinc 3 1, 3, 3, [], [], []),
  (36, .iinc 4 1, 3, 4, [], [], []),
  (39, .goto (-34), 3, 5, [], [], []),
  (42, .iconst (-1), 1, 0, [], [], []),
  (43, .ireturn, 1, 0, [], [], [])], [(5, [true, true, true, true, true])])
def mX6_leastOf : sM := (6, 1, [
  (0, .iconst 0, 1, 0, [], [], []),
  (1, .istore 4, 2, 4, [], [], []),
  (3, .iconst 0, 1, 0, [], [], []),
  (4, .istore 5, 2, 5, [], [], []),
  (6, .iload 5, 2, 5, [], [], []),
  (8, .bipush 8, 2, 0, [], [], []),
  (10, .if_icmp .ge 31, 3, 41, [], [], []),
  (13, .iload 4, 2, 4, [], [], []),
  (15, .aload_n 0, 1, 0, [], [], []),
  (16, .iload_n 1, 1, 1, [], [], []),
  (17, .iload_n 2, 1, 2, [], [], []),
  (18, .iload 5, 2, 5, [], [], []),
  (20, .invokevirtual 31, 3, 58, [1, 3], [6], []),
  (23, .iadd, 1, 0, [], [], []),
  (24, .istore 4, 2, 4, [], [], []),
  (26, .iload_n 3, 1, 3, [], [], []),
  (27, .iload 4, 2, 4, [], [], []),
  (29, .if_icmp .ge 6, 3, 35, [], [], []),
  (32, .iload 5, 2, 5, [], [], []),
  (34, .ireturn, 1, 0, [], [], []),
  (35, .iinc 5 1, 3, 5, [], [], []),
  (38, .goto (-32), 3, 6, [], [], []),
  (41, .iconst (-1), 1, 0, [], [], []),
  (42, .ireturn, 1, 0, [], [], [])], [(6, [true, true, true, true, true, true])])
def mX6_nodeBit : sM := (7, 1, [
  (0, .iload_n 1, 1, 1, [], [], []),
  (1, .ifCond .ne 7, 3, 8, [], [], []),
  (4, .iconst 0, 1, 0, [], [], []),
  (5, .goto 13, 3, 18, [], [], []),
  (8, .iload_n 1, 1, 1, [], [], []),
  (9, .iconst 3, 1, 0, [], [], []),
  (10, .if_icmp .ge 7, 3, 17, [], [], []),
  (13, .iconst 1, 1, 0, [], [], []),
  (14, .goto 4, 3, 18, [], [], []),
  (17, .iconst 3, 1, 0, [], [], []),
  (18, .istore_n 3, 1, 3, [], [], []),
  (19, .iload_n 1, 1, 1, [], [], []),
  (20, .ifCond .ne 7, 3, 27, [], [], []),
  (23, .iconst 2, 1, 0, [], [], []),
  (24, .goto 13, 3, 37, [], [], []),
  (27, .iload_n 1, 1, 1, [], [], []),
  (28, .iconst 3, 1, 0, [], [], []),
  (29, .if_icmp .ge 7, 3, 36, [], [], []),
  (32, .iconst 1, 1, 0, [], [], []),
  (33, .goto 4, 3, 37, [], [], []),
  (36, .iconst 0, 1, 0, [], [], []),
  (37, .istore 4, 2, 4, [], [], []),
  (39, .iconst 0, 1, 0, [], [], []),
  (40, .istore 5, 2, 5, [], [], []),
  (42, .iconst 0, 1, 0, [], [], []),
  (43, .istore 6, 2, 6, [], [], []),
  (45, .iload 6, 2, 6, [], [], []),
  (47, .aload_n 0, 1, 0, [], [], []),
  (48, .getfield 15, 3, 0, [], [6, 1], []),
  (51, .if_icmp .ge 49, 3, 100, [], [], []),
  (54, .aload_n 0, 1, 0, [], [], []),
  (55, .getfield 9, 3, 2, [], [6, 0], []),
  (58, .iload 6, 2, 6, [], [], []),
  (60, .baload, 1, 0, [], [], []),
  (61, .iload 4, 2, 4, [], [], []),
  (63, .iconst 1, 1, 0, [], [], []),
  (64, .iadd, 1, 0, [], [], []),
  (65, .ishr, 1, 0, [], [], []),
  (66, .iload_n 1, 1, 1, [], [], []),
  (67, .iload_n 3, 1, 3, [], [], []),
  (68, .isub, 1, 0, [], [], []),
  (69, .if_icmp .ne 25, 3, 94, [], [], []),
  (72, .iload 5, 2, 5, [], [], []),
  (74, .iload_n 2, 1, 2, [], [], []),
  (75, .if_icmp .ne 16, 3, 91, [], [], []),
  (78, .aload_n 0, 1, 0, [], [], []),
  (79, .getfield 9, 3, 2, [], [6, 0], []),
  (82, .iload 6, 2, 6, [], [], []),
  (84, .baload, 1, 0, [], [], []),
  (85, .iload 4, 2, 4, [], [], []),
  (87, .ishr, 1, 0, [], [], []),
  (88, .iconst 1, 1, 0, [], [], []),
  (89, .iand, 1, 0, [], [], []),
  (90, .ireturn, 1, 0, [], [], []),
  (91, .iinc 5 1, 3, 5, [], [], []),
  (94, .iinc 6 1, 3, 6, [], [], []),
  (97, .goto (-52), 3, 45, [], [], []),
  (100, .iconst (-1), 1, 0, [], [], []),
  (101, .ireturn, 1, 0, [], [], [])], [(18, [true, true, true, false, false, false, false]), (45, [true, true, true, true, true, true, true])])
def mX6_insert : sM := (3, 0, [
  (0, .iload_n 1, 1, 1, [], [], []),
  (1, .ifCond .lt 21, 3, 22, [], [], []),
  (4, .iload_n 1, 1, 1, [], [], []),
  (5, .aload_n 0, 1, 0, [], [], []),
  (6, .getfield 15, 3, 0, [], [6, 1], []),
  (9, .if_icmp .gt 13, 3, 22, [], [], []),
  (12, .aload_n 0, 1, 0, [], [], []),
  (13, .getfield 15, 3, 0, [], [6, 1], []),
  (16, .sipush 200, 3, 0, [], [], []),
  (19, .if_icmp .lt 4, 3, 23, [], [], []),
  (22, .return_, 1, 0, [], [], []),
  (23, .aload_n 0, 1, 0, [], [], []),
  (24, .getfield 9, 3, 2, [], [6, 0], []),
  (27, .iload_n 1, 1, 1, [], [], []),
  (28, .aload_n 0, 1, 0, [], [], []),
  (29, .getfield 9, 3, 2, [], [6, 0], []),
  (32, .iload_n 1, 1, 1, [], [], []),
  (33, .iconst 1, 1, 0, [], [], []),
  (34, .iadd, 1, 0, [], [], []),
  (35, .aload_n 0, 1, 0, [], [], []),
  (36, .getfield 15, 3, 0, [], [6, 1], []),
  (39, .iload_n 1, 1, 1, [], [], []),
  (40, .isub, 1, 0, [], [], []),
  (41, .invokestatic 19, 3, 0, [0], [], []),
  (44, .aload_n 0, 1, 0, [], [], []),
  (45, .getfield 9, 3, 2, [], [6, 0], []),
  (48, .iload_n 1, 1, 1, [], [], []),
  (49, .iload_n 2, 1, 2, [], [], []),
  (50, .i2b, 1, 0, [], [], []),
  (51, .bastore, 1, 0, [], [], []),
  (52, .aload_n 0, 1, 0, [], [], []),
  (53, .dup, 1, 0, [], [], []),
  (54, .getfield 15, 3, 0, [], [6, 1], []),
  (57, .iconst 1, 1, 0, [], [], []),
  (58, .iadd, 1, 0, [], [], []),
  (59, .putfield 15, 3, 0, [], [6, 1], []),
  (62, .return_, 1, 0, [], [], [])], [])
def mX6_remove : sM := (3, 0, [
  (0, .aload_n 0, 1, 0, [], [], []),
  (1, .iload_n 1, 1, 1, [], [], []),
  (2, .iload_n 2, 1, 2, [], [], []),
  (3, .invokevirtual 35, 3, 57, [4, 2], [6], []),
  (6, .ifCond .ne 4, 3, 10, [], [], []),
  (9, .return_, 1, 0, [], [], []),
  (10, .aload_n 0, 1, 0, [], [], []),
  (11, .getfield 9, 3, 2, [], [6, 0], []),
  (14, .iload_n 1, 1, 1, [], [], []),
  (15, .iload_n 2, 1, 2, [], [], []),
  (16, .iadd, 1, 0, [], [], []),
  (17, .aload_n 0, 1, 0, [], [], []),
  (18, .getfield 9, 3, 2, [], [6, 0], []),
  (21, .iload_n 1, 1, 1, [], [], []),
  (22, .aload_n 0, 1, 0, [], [], []),
  (23, .getfield 15, 3, 0, [], [6, 1], []),
  (26, .iload_n 1, 1, 1, [], [], []),
  (27, .isub, 1, 0, [], [], []),
  (28, .iload_n 2, 1, 2, [], [], []),
  (29, .isub, 1, 0, [], [], []),
  (30, .invokestatic 19, 3, 0, [0], [], []),
  (33, .aload_n 0, 1, 0, [], [], []),
  (34, .dup, 1, 0, [], [], []),
  (35, .getfield 15, 3, 0, [], [6, 1], []),
  (38, .iload_n 2, 1, 2, [], [], []),
  (39, .isub, 1, 0, [], [], []),
  (40, .putfield 15, 3, 0, [], [6, 1], []),
  (43, .return_, 1, 0, [], [], [])], [])
def mX7_init : sM := (1, 0, [
  (0, .aload_n 0, 1, 0, [], [], []),
  (1, .invokespecial 3, 3, 0, [], [7], []),
  (4, .aload_n 0, 1, 0, [], [], []),
  (5, .bipush 40, 2, 0, [], [], []),
  (7, .anewarray 9, 3, 0, [], [27], []),
  (10, .putfield 11, 3, 2, [], [7, 0], []),
  (13, .aload_n 0, 1, 0, [], [], []),
  (14, .bipush 40, 2, 0, [], [], []),
  (16, .newarray .int, 2, 0, [], [20], []),
  (18, .putfield 17, 3, 2, [], [7, 1], []),
  (21, .aload_n 0, 1, 0, [], [], []),
  (22, .bipush 40, 2, 0, [], [], []),
  (24, .newarray .int, 2, 0, [], [20], []),
  (26, .putfield 21, 3, 2, [], [7, 2], []),
  (29, .aload_n 0, 1, 0, [], [], []),
  (30, .bipush 40, 2, 0, [], [], []),
  (32, .newarray .boolean, 2, 0, [], [23], []),
  (34, .putfield 24, 3, 2, [], [7, 3], []),
  (37, .return_, 1, 0, [], [], [])], [])
def mX7_clear : sM := (1, 0, [
  (0, .aload_n 0, 1, 0, [], [], []),
  (1, .iconst 0, 1, 0, [], [], []),
  (2, .putfield 28, 3, 0, [], [7, 4], []),
  (5, .aload_n 0, 1, 0, [], [], []),
  (6, .iconst 0, 1, 0, [], [], []),
  (7, .putfield 32, 3, 0, [], [7, 5], []),
  (10, .return_, 1, 0, [], [], [])], [])
def mX7_copyFrom : sM := (3, 0, [
  (0, .iconst 0, 1, 0, [], [], []),
  (1, .istore_n 2, 1, 2, [], [], []),
  (2, .iload_n 2, 1, 2, [], [], []),
  (3, .aload_n 1, 1, 1, [], [], []),
  (4, .getfield 28, 3, 0, [], [7, 4], []),
  (7, .if_icmp .ge 51, 3, 58, [], [], []),
  (10, .iload_n 2, 1, 2, [], [], []),
  (11, .bipush 40, 2, 0, [], [], []),
  (13, .if_icmp .ge 45, 3, 58, [], [], []),
  (16, .aload_n 0, 1, 0, [], [], []),
  (17, .getfield 11, 3, 2, [], [7, 0], []),
  (20, .iload_n 2, 1, 2, [], [], []),
  (21, .aload_n 1, 1, 1, [], [], []),
  (22, .getfield 11, 3, 2, [], [7, 0], []),
  (25, .iload_n 2, 1, 2, [], [], []),
  (26, .aaload, 1, 0, [], [], []),
  (27, .aastore, 1, 0, [], [], []),
  (28, .aload_n 0, 1, 0, [], [], []),
  (29, .getfield 17, 3, 2, [], [7, 1], []),
  (32, .iload_n 2, 1, 2, [], [], []),
  (33, .aload_n 1, 1, 1, [], [], []),
  (34, .getfield 17, 3, 2, [], [7, 1], []),
  (37, .iload_n 2, 1, 2, [], [], []),
  (38, .iaload, 1, 0, [], [], []),
  (39, .iastore, 1, 0, [], [], []),
  (40, .aload_n 0, 1, 0, [], [], []),
  (41, .getfield 21, 3, 2, [], [7, 2], []),
  (44, .iload_n 2, 1, 2, [], [], []),
  (45, .aload_n 1, 1, 1, [], [], []),
  (46, .getfield 21, 3, 2, [], [7, 2], []),
  (49, .iload_n 2, 1, 2, [], [], []),
  (50, .iaload, 1, 0, [], [], []),
  (51, .iastore, 1, 0, [], [], []),
  (52, .iinc 2 1, 3, 2, [], [], []),
  (55, .goto (-53), 3, 2, [], [], []),
  (58, .aload_n 0, 1, 0, [], [], []),
  (59, .aload_n 1, 1, 1, [], [], []),
  (60, .getfield 28, 3, 0, [], [7, 4], []),
  (63, .putfield 28, 3, 0, [], [7, 4], []),
  (66, .aload_n 0, 1, 0, [], [], []),
  (67, .aload_n 1, 1, 1, [], [], []),
  (68, .getfield 32, 3, 0, [], [7, 5], []),
  (71, .putfield 32, 3, 0, [], [7, 5], []),
  (74, .return_, 1, 0, [], [], [])], [(2, [true, true, true])])
def mX7_readAll : sM := (3, 0, [
  (0, .aload_n 0, 1, 0, [], [], []),
  (1, .invokevirtual 35, 3, 65, [0, 0], [7], []),
  (4, .aload_n 0, 1, 0, [], [], []),
  (5, .aload_n 1, 1, 1, [], [], []),
  (6, .aload_n 2, 1, 2, [], [], []),
  (7, .iconst 1, 1, 0, [], [], []),
  (8, .invokevirtual 38, 3, 68, [0, 3], [7], []),
  (11, .aload_n 1, 1, 1, [], [], []),
  (12, .invokevirtual 42, 3, 19, [4, 0], [4], []),
  (15, .ifCond .eq 8, 3, 23, [], [], []),
  (18, .aload_n 1, 1, 1, [], [], []),
  (19, .iconst 1, 1, 0, [], [], []),
  (20, .invokevirtual 48, 3, 20, [0, 1], [4], []),
  (23, .return_, 1, 0, [], [], [])], [])
def mX7_readCond : sM := (7, 0, [
  (0, .aload_n 0, 1, 0, [], [], []),
  (1, .aload_n 1, 1, 1, [], [], []),
  (2, .aload_n 2, 1, 2, [], [], []),
  (3, .iload_n 3, 1, 3, [], [], []),
  (4, .invokevirtual 52, 3, 69, [0, 3], [7], []),
  (7, .iconst 0, 1, 0, [], [], []),
  (8, .istore 4, 2, 4, [], [], []),
  (10, .iconst 0, 1, 0, [], [], []),
  (11, .istore 5, 2, 5, [], [], []),
  (13, .iload 5, 2, 5, [], [], []),
  (15, .bipush 20, 2, 0, [], [], []),
  (17, .if_icmp .ge 112, 3, 129, [], [], []),
  (20, .aload_n 1, 1, 1, [], [], []),
  (21, .getfield 55, 3, 0, [], [4, 10], []),
  (24, .ifCond .ne 105, 3, 129, [], [], []),
  (27, .aload_n 1, 1, 1, [], [], []),
  (28, .getfield 58, 3, 2, [], [4, 9], []),
  (31, .getstatic 62, 3, 0, [], [12], []),
  (34, .if_acmp .eq 13, 3, 47, [], [], []),
  (37, .aload_n 1, 1, 1, [], [], []),
  (38, .getfield 58, 3, 2, [], [4, 9], []),
  (41, .getstatic 65, 3, 0, [], [13], []),
  (44, .if_acmp .ne 85, 3, 129, [], [], []),
  (47, .aload_n 1, 1, 1, [], [], []),
  (48, .getfield 58, 3, 2, [], [4, 9], []),
  (51, .astore 6, 2, 6, [], [], []),
  (53, .aload_n 1, 1, 1, [], [], []),
  (54, .invokevirtual 68, 3, 16, [0, 0], [4], []),
  (57, .aload 6, 2, 6, [], [], []),
  (59, .getstatic 62, 3, 0, [], [12], []),
  (62, .if_acmp .ne 17, 3, 79, [], [], []),
  (65, .iload 4, 2, 4, [], [], []),
  (67, .ifCond .eq 12, 3, 79, [], [], []),
  (70, .aload_n 0, 1, 0, [], [], []),
  (71, .getstatic 62, 3, 0, [], [12], []),
  (74, .iconst 0, 1, 0, [], [], []),
  (75, .iconst 0, 1, 0, [], [], []),
  (76, .invokevirtual 71, 3, 71, [0, 3], [7], []),
  (79, .iload 4, 2, 4, [], [], []),
  (81, .ifCond .ne 11, 3, 92, [], [], []),
  (84, .aload 6, 2, 6, [], [], []),
  (86, .getstatic 62, 3, 0, [], [12], []),
  (89, .if_acmp .ne 7, 3, 96, [], [], []),
  (92, .iconst 1, 1, 0, [], [], []),
  (93, .goto 4, 3, 97, [], [], []),
  (96, .iconst 0, 1, 0, [], [], []),
  (97, .istore 4, 2, 4, [], [], []),
  (99, .aload_n 0, 1, 0, [], [], []),
  (100, .aload_n 1, 1, 1, [], [], []),
  (101, .aload_n 2, 1, 2, [], [], []),
  (102, .iload_n 3, 1, 3, [], [], []),
  (103, .invokevirtual 52, 3, 69, [0, 3], [7], []),
  (106, .aload 6, 2, 6, [], [], []),
  (108, .getstatic 65, 3, 0, [], [13], []),
  (111, .if_acmp .ne 12, 3, 123, [], [], []),
  (114, .aload_n 0, 1, 0, [], [], []),
  (115, .getstatic 65, 3, 0, [], [13], []),
  (118, .iconst 0, 1, 0, [], [], []),
  (119, .iconst 0, 1, 0, [], [], []),
  (120, .invokevirtual 71, 3, 71, [0, 3], [7], []),
  (123, .iinc 5 1, 3, 5, [], [], []),
  (126, .goto (-113), 3, 13, [], [], []),
  (129, .iload 4, 2, 4, [], [], []),
  (131, .ifCond .eq 12, 3, 143, [], [], []),
  (134, .aload_n 0, 1, 0, [], [], []),
  (135, .getstatic 62, 3, 0, [], [12], []),
  (138, .iconst 0, 1, 0, [], [], []),
  (139, .iconst 0, 1, 0, [], [], []),
  (140, .invokevirtual 71, 3, 71, [0, 3], [7], []),
  (143, .return_, 1, 0, [], [], [])], [(13, [true, true, true, true, true, true, false]), (79, [true, true, true, true, true, true, true]), (97, [true, true, true, true, false, true, true])])
def mX7_readOne : sM := (6, 0, [
  (0, .aload_n 1, 1, 1, [], [], []),
  (1, .bipush 40, 2, 0, [], [], []),
  (3, .invokevirtual 75, 3, 22, [4, 1], [4], []),
  (6, .istore 4, 2, 4, [], [], []),
  (8, .aload_n 1, 1, 1, [], [], []),
  (9, .getfield 55, 3, 0, [], [4, 10], []),
  (12, .ifCond .eq 4, 3, 16, [], [], []),
  (15, .return_, 1, 0, [], [], []),
  (16, .iload 4, 2, 4, [], [], []),
  (18, .ifCond .ne 27, 3, 45, [], [], []),
  (21, .aload_n 1, 1, 1, [], [], []),
  (22, .getfield 58, 3, 2, [], [4, 9], []),
  (25, .ifnull 14, 3, 39, [], [], []),
  (28, .aload_n 1, 1, 1, [], [], []),
  (29, .getfield 58, 3, 2, [], [4, 9], []),
  (32, .getfield 79, 3, 0, [], [30, 1], []),
  (35, .iconst 2, 1, 0, [], [], []),
  (36, .if_icmp .eq 9, 3, 45, [], [], []),
  (39, .aload_n 1, 1, 1, [], [], []),
  (40, .iconst 1, 1, 0, [], [], []),
  (41, .invokevirtual 48, 3, 20, [0, 1], [4], []),
  (44, .return_, 1, 0, [], [], []),
  (45, .aload_n 0, 1, 0, [], [], []),
  (46, .getfield 32, 3, 0, [], [7, 5], []),
  (49, .bipush 20, 2, 0, [], [], []),
  (51, .if_icmp .ge 9, 3, 60, [], [], []),
  (54, .iload_n 3, 1, 3, [], [], []),
  (55, .bipush 8, 2, 0, [], [], []),
  (57, .if_icmp .le 9, 3, 66, [], [], []),
  (60, .aload_n 1, 1, 1, [], [], []),
  (61, .iconst 4, 1, 0, [], [], []),
  (62, .invokevirtual 48, 3, 20, [0, 1], [4], []),
  (65, .return_, 1, 0, [], [], []),
  (66, .aload_n 0, 1, 0, [], [], []),
  (67, .dup, 1, 0, [], [], []),
  (68, .getfield 32, 3, 0, [], [7, 5], []),
  (71, .iconst 1, 1, 0, [], [], []),
  (72, .iadd, 1, 0, [], [], []),
  (73, .putfield 32, 3, 0, [], [7, 5], []),
  (76, .aload_n 1, 1, 1, [], [], []),
  (77, .getfield 58, 3, 2, [], [4, 9], []),
  (80, .astore 5, 2, 5, [], [], []),
  (82, .aload_n 1, 1, 1, [], [], []),
  (83, .invokevirtual 68, 3, 16, [0, 0], [4], []),
  (86, .iload 4, 2, 4, [], [], []),
  (88, .ifCond .eq 21, 3, 109, [], [], []),
  (91, .aload_n 0, 1, 0, [], [], []),
  (92, .aload_n 1, 1, 1, [], [], []),
  (93, .aload_n 2, 1, 2, [], [], []),
  (94, .iload_n 3, 1, 3, [], [], []),
  (95, .iconst 1, 1, 0, [], [], []),
  (96, .iadd, 1, 0, [], [], []),
  (97, .invokevirtual 38, 3, 68, [0, 3], [7], []),
  (100, .aload_n 1, 1, 1, [], [], []),
  (101, .bipush 41, 2, 0, [], [], []),
  (103, .invokevirtual 82, 3, 23, [0, 1], [4], []),
  (106, .goto 40, 3, 146, [], [], []),
  (109, .aload 5, 2, 5, [], [], []),
  (111, .getstatic 85, 3, 0, [], [14], []),
  (114, .if_acmp .ne 24, 3, 138, [], [], []),
  (117, .aload_n 0, 1, 0, [], [], []),
  (118, .aload_n 1, 1, 1, [], [], []),
  (119, .aload_n 2, 1, 2, [], [], []),
  (120, .iload_n 3, 1, 3, [], [], []),
  (121, .iconst 1, 1, 0, [], [], []),
  (122, .iadd, 1, 0, [], [], []),
  (123, .invokevirtual 52, 3, 69, [0, 3], [7], []),
  (126, .aload_n 0, 1, 0, [], [], []),
  (127, .getstatic 85, 3, 0, [], [14], []),
  (130, .iconst 0, 1, 0, [], [], []),
  (131, .iconst 0, 1, 0, [], [], []),
  (132, .invokevirtual 71, 3, 71, [0, 3], [7], []),
  (135, .goto 11, 3, 146, [], [], []),
  (138, .aload_n 0, 1, 0, [], [], []),
  (139, .aload_n 1, 1, 1, [], [], []),
  (140, .aload_n 2, 1, 2, [], [], []),
  (141, .aload 5, 2, 5, [], [], []),
  (143, .invokevirtual 88, 3, 70, [0, 3], [7], []),
  (146, .return_, 1, 0, [], [], [])], [])
def mX7_readPlain : sM := (5, 0, [
  (0, .aload_n 3, 1, 3, [], [], []),
  (1, .getstatic 92, 3, 0, [], [15], []),
  (4, .if_acmp .eq 10, 3, 14, [], [], []),
  (7, .aload_n 3, 1, 3, [], [], []),
  (8, .getstatic 95, 3, 0, [], [16], []),
  (11, .if_acmp .ne 13, 3, 24, [], [], []),
  (14, .aload_n 0, 1, 0, [], [], []),
  (15, .aload_n 3, 1, 3, [], [], []),
  (16, .iconst 0, 1, 0, [], [], []),
  (17, .iconst 0, 1, 0, [], [], []),
  (18, .invokevirtual 71, 3, 71, [0, 3], [7], []),
  (21, .goto 53, 3, 74, [], [], []),
  (24, .aload_n 3, 1, 3, [], [], []),
  (25, .getstatic 98, 3, 0, [], [17], []),
  (28, .if_acmp .eq 10, 3, 38, [], [], []),
  (31, .aload_n 3, 1, 3, [], [], []),
  (32, .getstatic 101, 3, 0, [], [18], []),
  (35, .if_acmp .ne 18, 3, 53, [], [], []),
  (38, .aload_n 0, 1, 0, [], [], []),
  (39, .aload_n 3, 1, 3, [], [], []),
  (40, .iconst 0, 1, 0, [], [], []),
  (41, .aload_n 1, 1, 1, [], [], []),
  (42, .aload_n 2, 1, 2, [], [], []),
  (43, .iconst (-1), 1, 0, [], [], []),
  (44, .invokevirtual 104, 3, 26, [1, 2], [4], []),
  (47, .invokevirtual 71, 3, 71, [0, 3], [7], []),
  (50, .goto 24, 3, 74, [], [], []),
  (53, .aload_n 1, 1, 1, [], [], []),
  (54, .invokevirtual 108, 3, 24, [1, 0], [4], []),
  (57, .istore 4, 2, 4, [], [], []),
  (59, .aload_n 0, 1, 0, [], [], []),
  (60, .aload_n 3, 1, 3, [], [], []),
  (61, .iload 4, 2, 4, [], [], []),
  (63, .aload_n 1, 1, 1, [], [], []),
  (64, .iconst 0, 1, 0, [], [], []),
  (65, .sipush 999, 3, 0, [], [], []),
  (68, .invokevirtual 112, 3, 25, [1, 2], [4], []),
  (71, .invokevirtual 71, 3, 71, [0, 3], [7], []),
  (74, .return_, 1, 0, [], [], [])], [])
def mX7_addStep : sM := (4, 0, [
  (0, .aload_n 0, 1, 0, [], [], []),
  (1, .getfield 28, 3, 0, [], [7, 4], []),
  (4, .bipush 40, 2, 0, [], [], []),
  (6, .if_icmp .ge 43, 3, 49, [], [], []),
  (9, .aload_n 0, 1, 0, [], [], []),
  (10, .getfield 11, 3, 2, [], [7, 0], []),
  (13, .aload_n 0, 1, 0, [], [], []),
  (14, .getfield 28, 3, 0, [], [7, 4], []),
  (17, .aload_n 1, 1, 1, [], [], []),
  (18, .aastore, 1, 0, [], [], []),
  (19, .aload_n 0, 1, 0, [], [], []),
  (20, .getfield 17, 3, 2, [], [7, 1], []),
  (23, .aload_n 0, 1, 0, [], [], []),
  (24, .getfield 28, 3, 0, [], [7, 4], []),
  (27, .iload_n 2, 1, 2, [], [], []),
  (28, .iastore, 1, 0, [], [], []),
  (29, .aload_n 0, 1, 0, [], [], []),
  (30, .getfield 21, 3, 2, [], [7, 2], []),
  (33, .aload_n 0, 1, 0, [], [], []),
  (34, .getfield 28, 3, 0, [], [7, 4], []),
  (37, .iload_n 3, 1, 3, [], [], []),
  (38, .iastore, 1, 0, [], [], []),
  (39, .aload_n 0, 1, 0, [], [], []),
  (40, .dup, 1, 0, [], [], []),
  (41, .getfield 28, 3, 0, [], [7, 4], []),
  (44, .iconst 1, 1, 0, [], [], []),
  (45, .iadd, 1, 0, [], [], []),
  (46, .putfield 28, 3, 0, [], [7, 4], []),
  (49, .return_, 1, 0, [], [], [])], [])
def mX7_isTrueOf : sM := (6, 4, [
  (0, .iconst 0, 1, 0, [], [], []),
  (1, .istore_n 3, 1, 3, [], [], []),
  (2, .iconst 0, 1, 0, [], [], []),
  (3, .istore 4, 2, 4, [], [], []),
  (5, .iload 4, 2, 4, [], [], []),
  (7, .aload_n 0, 1, 0, [], [], []),
  (8, .getfield 28, 3, 0, [], [7, 4], []),
  (11, .if_icmp .ge 186, 3, 197, [], [], []),
  (14, .iload 4, 2, 4, [], [], []),
  (16, .bipush 40, 2, 0, [], [], []),
  (18, .if_icmp .ge 179, 3, 197, [], [], []),
  (21, .aload_n 0, 1, 0, [], [], []),
  (22, .getfield 11, 3, 2, [], [7, 0], []),
  (25, .iload 4, 2, 4, [], [], []),
  (27, .aaload, 1, 0, [], [], []),
  (28, .astore 5, 2, 5, [], [], []),
  (30, .aload 5, 2, 5, [], [], []),
  (32, .getstatic 85, 3, 0, [], [14], []),
  (35, .if_acmp .ne 35, 3, 70, [], [], []),
  (38, .iload_n 3, 1, 3, [], [], []),
  (39, .iconst 1, 1, 0, [], [], []),
  (40, .if_icmp .lt 30, 3, 70, [], [], []),
  (43, .aload_n 0, 1, 0, [], [], []),
  (44, .getfield 24, 3, 2, [], [7, 3], []),
  (47, .iload_n 3, 1, 3, [], [], []),
  (48, .iconst 1, 1, 0, [], [], []),
  (49, .isub, 1, 0, [], [], []),
  (50, .aload_n 0, 1, 0, [], [], []),
  (51, .getfield 24, 3, 2, [], [7, 3], []),
  (54, .iload_n 3, 1, 3, [], [], []),
  (55, .iconst 1, 1, 0, [], [], []),
  (56, .isub, 1, 0, [], [], []),
  (57, .baload, 1, 0, [], [], []),
  (58, .ifCond .ne 7, 3, 65, [], [], []),
  (61, .iconst 1, 1, 0, [], [], []),
  (62, .goto 4, 3, 66, [], [], []),
  (65, .iconst 0, 1, 0, [], [], []),
  (66, .bastore, 1, 0, [], [], []),
  (67, .goto 124, 3, 191, [], [], []),
  (70, .aload 5, 2, 5, [], [], []),
  (72, .getstatic 65, 3, 0, [], [13], []),
  (75, .if_acmp .ne 47, 3, 122, [], [], []),
  (78, .iload_n 3, 1, 3, [], [], []),
  (79, .iconst 2, 1, 0, [], [], []),
  (80, .if_icmp .lt 42, 3, 122, [], [], []),
  (83, .iinc 3 (-1), 3, 3, [], [], []),
  (86, .aload_n 0, 1, 0, [], [], []),
  (87, .getfield 24, 3, 2, [], [7, 3], []),
  (90, .iload_n 3, 1, 3, [], [], []),
  (91, .iconst 1, 1, 0, [], [], []),
  (92, .isub, 1, 0, [], [], []),
  (93, .aload_n 0, 1, 0, [], [], []),
  (94, .getfield 24, 3, 2, [], [7, 3], []),
  (97, .iload_n 3, 1, 3, [], [], []),
  (98, .iconst 1, 1, 0, [], [], []),
  (99, .isub, 1, 0, [], [], []),
  (100, .baload, 1, 0, [], [], []),
  (101, .ifCond .eq 16, 3, 117, [], [], []),
  (104, .aload_n 0, 1, 0, [], [], []),
  (105, .getfield 24, 3, 2, [], [7, 3], []),
  (108, .iload_n 3, 1, 3, [], [], []),
  (109, .baload, 1, 0, [], [], []),
  (110, .ifCond .eq 7, 3, 117, [], [], []),
  (113, .iconst 1, 1, 0, [], [], []),
  (114, .goto 4, 3, 118, [], [], []),
  (117, .iconst 0, 1, 0, [], [], []),
  (118, .bastore, 1, 0, [], [], []),
  (119, .goto 72, 3, 191, [], [], []),
  (122, .aload 5, 2, 5, [], [], []),
  (124, .getstatic 62, 3, 0, [], [12], []),
  (127, .if_acmp .ne 47, 3, 174, [], [], []),
  (130, .iload_n 3, 1, 3, [], [], []),
  (131, .iconst 2, 1, 0, [], [], []),
  (132, .if_icmp .lt 42, 3, 174, [], [], []),
  (135, .iinc 3 (-1), 3, 3, [], [], []),
  (138, .aload_n 0, 1, 0, [], [], []),
  (139, .getfield 24, 3, 2, [], [7, 3], []),
  (142, .iload_n 3, 1, 3, [], [], []),
  (143, .iconst 1, 1, 0, [], [], []),
  (144, .isub, 1, 0, [], [], []),
  (145, .aload_n 0, 1, 0, [], [], []),
  (146, .getfield 24, 3, 2, [], [7, 3], []),
  (149, .iload_n 3, 1, 3, [], [], []),
  (150, .iconst 1, 1, 0, [], [], []),
  (151, .isub, 1, 0, [], [], []),
  (152, .baload, 1, 0, [], [], []),
  (153, .ifCond .ne 12, 3, 165, [], [], []),
  (156, .aload_n 0, 1, 0, [], [], []),
  (157, .getfield 24, 3, 2, [], [7, 3], []),
  (160, .iload_n 3, 1, 3, [], [], []),
  (161, .baload, 1, 0, [], [], []),
  (162, .ifCond .eq 7, 3, 169, [], [], []),
  (165, .iconst 1, 1, 0, [], [], []),
  (166, .goto 4, 3, 170, [], [], []),
  (169, .iconst 0, 1, 0, [], [], []),
  (170, .bastore, 1, 0, [], [], []),
  (171, .goto 20, 3, 191, [], [], []),
  (174, .aload_n 0, 1, 0, [], [], []),
  (175, .getfield 24, 3, 2, [], [7, 3], []),
  (178, .iload_n 3, 1, 3, [], [], []),
  (179, .aload_n 0, 1, 0, [], [], []),
  (180, .iload 4, 2, 4, [], [], []),
  (182, .aload_n 1, 1, 1, [], [], []),
  (183, .iload_n 2, 1, 2, [], [], []),
  (184, .invokevirtual 116, 3, 73, [4, 3], [7], []),
  (187, .bastore, 1, 0, [], [], []),
  (188, .iinc 3 1, 3, 3, [], [], []),
  (191, .iinc 4 1, 3, 4, [], [], []),
  (194, .goto (-189), 3, 5, [], [], []),
  (197, .iload_n 3, 1, 3, [], [], []),
  (198, .iconst 1, 1, 0, [], [], []),
  (199, .if_icmp .ne 16, 3, 215, [], [], []),
  (202, .aload_n 0, 1, 0, [], [], []),
  (203, .getfield 24, 3, 2, [], [7, 3], []),
  (206, .iconst 0, 1, 0, [], [], []),
  (207, .baload, 1, 0, [], [], []),
  (208, .ifCond .eq 7, 3, 215, [], [], []),
  (211, .iconst 1, 1, 0, [], [], []),
  (212, .goto 4, 3, 216, [], [], []),
  (215, .iconst 0, 1, 0, [], [], []),
  (216, .ireturn, 1, 0, [], [], [])], [(5, [true, true, true, true, true, false]), (122, [true, true, true, true, true, true])])
def mX7_isPlainTrue : sM := (7, 4, [
  (0, .aload_n 2, 1, 2, [], [], []),
  (1, .iload_n 3, 1, 3, [], [], []),
  (2, .invokevirtual 120, 3, 77, [3, 1], [8], []),
  (5, .astore 4, 2, 4, [], [], []),
  (7, .aload 4, 2, 4, [], [], []),
  (9, .ifnonnull 5, 3, 14, [], [], []),
  (12, .iconst 0, 1, 0, [], [], []),
  (13, .ireturn, 1, 0, [], [], []),
  (14, .aload_n 0, 1, 0, [], [], []),
  (15, .getfield 11, 3, 2, [], [7, 0], []),
  (18, .iload_n 1, 1, 1, [], [], []),
  (19, .aaload, 1, 0, [], [], []),
  (20, .astore 5, 2, 5, [], [], []),
  (22, .aload 5, 2, 5, [], [], []),
  (24, .getstatic 92, 3, 0, [], [15], []),
  (27, .if_acmp .ne 17, 3, 44, [], [], []),
  (30, .aload 4, 2, 4, [], [], []),
  (32, .getfield 126, 3, 0, [], [5, 2], []),
  (35, .ifCond .ne 7, 3, 42, [], [], []),
  (38, .iconst 1, 1, 0, [], [], []),
  (39, .goto 4, 3, 43, [], [], []),
  (42, .iconst 0, 1, 0, [], [], []),
  (43, .ireturn, 1, 0, [], [], []),
  (44, .aload 5, 2, 5, [], [], []),
  (46, .getstatic 95, 3, 0, [], [16], []),
  (49, .if_acmp .ne 26, 3, 75, [], [], []),
  (52, .aload 4, 2, 4, [], [], []),
  (54, .iconst 0, 1, 0, [], [], []),
  (55, .aload 4, 2, 4, [], [], []),
  (57, .getfield 126, 3, 0, [], [5, 2], []),
  (60, .iconst 1, 1, 0, [], [], []),
  (61, .invokevirtual 131, 3, 35, [1, 3], [5], []),
  (64, .iconst 2, 1, 0, [], [], []),
  (65, .irem, 1, 0, [], [], []),
  (66, .ifCond .ne 7, 3, 73, [], [], []),
  (69, .iconst 1, 1, 0, [], [], []),
  (70, .goto 4, 3, 74, [], [], []),
  (73, .iconst 0, 1, 0, [], [], []),
  (74, .ireturn, 1, 0, [], [], []),
  (75, .aload 5, 2, 5, [], [], []),
  (77, .getstatic 98, 3, 0, [], [17], []),
  (80, .if_acmp .eq 11, 3, 91, [], [], []),
  (83, .aload 5, 2, 5, [], [], []),
  (85, .getstatic 101, 3, 0, [], [18], []),
  (88, .if_acmp .ne 58, 3, 146, [], [], []),
  (91, .aload_n 2, 1, 2, [], [], []),
  (92, .aload_n 0, 1, 0, [], [], []),
  (93, .getfield 21, 3, 2, [], [7, 2], []),
  (96, .iload_n 1, 1, 1, [], [], []),
  (97, .iaload, 1, 0, [], [], []),
  (98, .invokevirtual 120, 3, 77, [3, 1], [8], []),
  (101, .astore 6, 2, 6, [], [], []),
  (103, .aload 6, 2, 6, [], [], []),
  (105, .ifnull 39, 3, 144, [], [], []),
  (108, .aload 5, 2, 5, [], [], []),
  (110, .getstatic 98, 3, 0, [], [17], []),
  (113, .if_acmp .ne 17, 3, 130, [], [], []),
  (116, .aload 4, 2, 4, [], [], []),
  (118, .aload 6, 2, 6, [], [], []),
  (120, .invokevirtual 135, 3, 43, [1, 1], [5], []),
  (123, .iconst (-1), 1, 0, [], [], []),
  (124, .if_icmp .ne 20, 3, 144, [], [], []),
  (127, .goto 13, 3, 140, [], [], []),
  (130, .aload 4, 2, 4, [], [], []),
  (132, .aload 6, 2, 6, [], [], []),
  (134, .invokevirtual 139, 3, 44, [4, 1], [5], []),
  (137, .ifCond .eq 7, 3, 144, [], [], []),
  (140, .iconst 1, 1, 0, [], [], []),
  (141, .goto 4, 3, 145, [], [], []),
  (144, .iconst 0, 1, 0, [], [], []),
  (145, .ireturn, 1, 0, [], [], []),
  (146, .aload 5, 2, 5, [], [], []),
  (148, .aload 4, 2, 4, [], [], []),
  (150, .iload_n 3, 1, 3, [], [], []),
  (151, .invokestatic 143, 3, 74, [1, 3], [], []),
  (154, .istore 6, 2, 6, [], [], []),
  (156, .aload_n 0, 1, 0, [], [], []),
  (157, .getfield 17, 3, 2, [], [7, 1], []),
  (160, .iload_n 1, 1, 1, [], [], []),
  (161, .iaload, 1, 0, [], [], []),
  (162, .bipush 60, 2, 0, [], [], []),
  (164, .if_icmp .ne 22, 3, 186, [], [], []),
  (167, .iload 6, 2, 6, [], [], []),
  (169, .aload_n 0, 1, 0, [], [], []),
  (170, .getfield 21, 3, 2, [], [7, 2], []),
  (173, .iload_n 1, 1, 1, [], [], []),
  (174, .iaload, 1, 0, [], [], []),
  (175, .if_icmp .ge 7, 3, 182, [], [], []),
  (178, .iconst 1, 1, 0, [], [], []),
  (179, .goto 53, 3, 232, [], [], []),
  (182, .iconst 0, 1, 0, [], [], []),
  (183, .goto 49, 3, 232, [], [], []),
  (186, .aload_n 0, 1, 0, [], [], []),
  (187, .getfield 17, 3, 2, [], [7, 1], []),
  (190, .iload_n 1, 1, 1, [], [], []),
  (191, .iaload, 1, 0, [], [], []),
  (192, .bipush 61, 2, 0, [], [], []),
  (194, .if_icmp .ne 22, 3, 216, [], [], []),
  (197, .iload 6, 2, 6, [], [], []),
  (199, .aload_n 0, 1, 0, [], [], []),
  (200, .getfield 21, 3, 2, [], [7, 2], []),
  (203, .iload_n 1, 1, 1, [], [], []),
  (204, .iaload, 1, 0, [], [], []),
  (205, .if_icmp .ne 7, 3, 212, [], [], []),
  (208, .iconst 1, 1, 0, [], [], []),
  (209, .goto 23, 3, 232, [], [], []),
  (212, .iconst 0, 1, 0, [], [], []),
  (213, .goto 19, 3, 232, [], [], []),
  (216, .iload 6, 2, 6, [], [], []),
  (218, .aload_n 0, 1, 0, [], [], []),
  (219, .getfield 21, 3, 2, [], [7, 2], []),
  (222, .iload_n 1, 1, 1, [], [], []),
  (223, .iaload, 1, 0, [], [], []),
  (224, .if_icmp .le 7, 3, 231, [], [], []),
  (227, .iconst 1, 1, 0, [], [], []),
  (228, .goto 4, 3, 232, [], [], []),
  (231, .iconst 0, 1, 0, [], [], []),
  (232, .ireturn, 1, 0, [], [], [])], [])
def mX7_measure : sM := (3, 1, [
  (0, .aload_n 0, 1, 0, [], [], []),
  (1, .getstatic 147, 3, 0, [], [19], []),
  (4, .if_acmp .ne 8, 3, 12, [], [], []),
  (7, .aload_n 1, 1, 1, [], [], []),
  (8, .getfield 126, 3, 0, [], [5, 2], []),
  (11, .ireturn, 1, 0, [], [], []),
  (12, .aload_n 0, 1, 0, [], [], []),
  (13, .getstatic 150, 3, 0, [], [20], []),
  (16, .if_acmp .ne 14, 3, 30, [], [], []),
  (19, .aload_n 1, 1, 1, [], [], []),
  (20, .iconst 0, 1, 0, [], [], []),
  (21, .aload_n 1, 1, 1, [], [], []),
  (22, .getfield 126, 3, 0, [], [5, 2], []),
  (25, .iconst 1, 1, 0, [], [], []),
  (26, .invokevirtual 131, 3, 35, [1, 3], [5], []),
  (29, .ireturn, 1, 0, [], [], []),
  (30, .aload_n 0, 1, 0, [], [], []),
  (31, .getstatic 153, 3, 0, [], [21], []),
  (34, .if_acmp .ne 8, 3, 42, [], [], []),
  (37, .aload_n 1, 1, 1, [], [], []),
  (38, .invokevirtual 156, 3, 38, [1, 0], [5], []),
  (41, .ireturn, 1, 0, [], [], []),
  (42, .aload_n 0, 1, 0, [], [], []),
  (43, .getstatic 159, 3, 0, [], [22], []),
  (46, .if_acmp .ne 10, 3, 56, [], [], []),
  (49, .aload_n 1, 1, 1, [], [], []),
  (50, .getfield 162, 3, 0, [], [5, 3], []),
  (53, .goto 4, 3, 57, [], [], []),
  (56, .iload_n 2, 1, 2, [], [], []),
  (57, .ireturn, 1, 0, [], [], [])], [])
def mX8_init : sM := (2, 0, [
  (0, .aload_n 0, 1, 0, [], [], []),
  (1, .invokespecial 3, 3, 0, [], [8], []),
  (4, .aload_n 0, 1, 0, [], [], []),
  (5, .iconst 4, 1, 0, [], [], []),
  (6, .anewarray 9, 3, 0, [], [24], []),
  (9, .putfield 11, 3, 2, [], [8, 0], []),
  (12, .aload_n 0, 1, 0, [], [], []),
  (13, .iconst 4, 1, 0, [], [], []),
  (14, .newarray .long, 2, 0, [], [22], []),
  (16, .putfield 17, 3, 2, [], [8, 1], []),
  (19, .aload_n 0, 1, 0, [], [], []),
  (20, .new 21, 3, 2, [], [6], []),
  (23, .dup, 1, 0, [], [], []),
  (24, .invokespecial 23, 3, 54, [0], [6], []),
  (27, .putfield 24, 3, 2, [], [8, 2], []),
  (30, .aload_n 0, 1, 0, [], [], []),
  (31, .bipush 8, 2, 0, [], [], []),
  (33, .putfield 28, 3, 0, [], [8, 4], []),
  (36, .iconst 0, 1, 0, [], [], []),
  (37, .istore_n 1, 1, 1, [], [], []),
  (38, .iload_n 1, 1, 1, [], [], []),
  (39, .iconst 4, 1, 0, [], [], []),
  (40, .if_icmp .ge 22, 3, 62, [], [], []),
  (43, .aload_n 0, 1, 0, [], [], []),
  (44, .getfield 11, 3, 2, [], [8, 0], []),
  (47, .iload_n 1, 1, 1, [], [], []),
  (48, .new 9, 3, 4, [], [5], []),
  (51, .dup, 1, 0, [], [], []),
  (52, .invokespecial 32, 3, 29, [0], [5], []),
  (55, .aastore, 1, 0, [], [], []),
  (56, .iinc 1 1, 3, 1, [], [], []),
  (59, .goto (-21), 3, 38, [], [], []),
  (62, .return_, 1, 0, [], [], [])], [(38, [true, true])])
def mX8_copyFrom : sM := (3, 0, [
  (0, .iconst 0, 1, 0, [], [], []),
  (1, .istore_n 2, 1, 2, [], [], []),
  (2, .iload_n 2, 1, 2, [], [], []),
  (3, .aload_n 1, 1, 1, [], [], []),
  (4, .getfield 33, 3, 0, [], [8, 3], []),
  (7, .if_icmp .ge 41, 3, 48, [], [], []),
  (10, .iload_n 2, 1, 2, [], [], []),
  (11, .iconst 4, 1, 0, [], [], []),
  (12, .if_icmp .ge 36, 3, 48, [], [], []),
  (15, .aload_n 0, 1, 0, [], [], []),
  (16, .getfield 11, 3, 2, [], [8, 0], []),
  (19, .iload_n 2, 1, 2, [], [], []),
  (20, .aaload, 1, 0, [], [], []),
  (21, .aload_n 1, 1, 1, [], [], []),
  (22, .getfield 11, 3, 2, [], [8, 0], []),
  (25, .iload_n 2, 1, 2, [], [], []),
  (26, .aaload, 1, 0, [], [], []),
  (27, .invokevirtual 36, 3, 31, [0, 1], [5], []),
  (30, .aload_n 0, 1, 0, [], [], []),
  (31, .getfield 17, 3, 2, [], [8, 1], []),
  (34, .iload_n 2, 1, 2, [], [], []),
  (35, .aload_n 1, 1, 1, [], [], []),
  (36, .getfield 17, 3, 2, [], [8, 1], []),
  (39, .iload_n 2, 1, 2, [], [], []),
  (40, .laload, 1, 0, [], [], []),
  (41, .lastore, 1, 0, [], [], []),
  (42, .iinc 2 1, 3, 2, [], [], []),
  (45, .goto (-43), 3, 2, [], [], []),
  (48, .aload_n 0, 1, 0, [], [], []),
  (49, .getfield 24, 3, 2, [], [8, 2], []),
  (52, .aload_n 1, 1, 1, [], [], []),
  (53, .getfield 24, 3, 2, [], [8, 2], []),
  (56, .invokevirtual 40, 3, 55, [0, 1], [6], []),
  (59, .aload_n 0, 1, 0, [], [], []),
  (60, .aload_n 1, 1, 1, [], [], []),
  (61, .getfield 33, 3, 0, [], [8, 3], []),
  (64, .putfield 33, 3, 0, [], [8, 3], []),
  (67, .aload_n 0, 1, 0, [], [], []),
  (68, .aload_n 1, 1, 1, [], [], []),
  (69, .getfield 28, 3, 0, [], [8, 4], []),
  (72, .putfield 28, 3, 0, [], [8, 4], []),
  (75, .return_, 1, 0, [], [], [])], [(2, [true, true, true])])
def mX8_rowAt : sM := (2, 3, [
  (0, .iload_n 1, 1, 1, [], [], []),
  (1, .ifCond .lt 16, 3, 17, [], [], []),
  (4, .iload_n 1, 1, 1, [], [], []),
  (5, .aload_n 0, 1, 0, [], [], []),
  (6, .getfield 33, 3, 0, [], [8, 3], []),
  (9, .if_icmp .ge 8, 3, 17, [], [], []),
  (12, .iload_n 1, 1, 1, [], [], []),
  (13, .iconst 4, 1, 0, [], [], []),
  (14, .if_icmp .lt 7, 3, 21, [], [], []),
  (17, .aconst_null, 1, 0, [], [], []),
  (18, .goto 9, 3, 27, [], [], []),
  (21, .aload_n 0, 1, 0, [], [], []),
  (22, .getfield 11, 3, 2, [], [8, 0], []),
  (25, .iload_n 1, 1, 1, [], [], []),
  (26, .aaload, 1, 0, [], [], []),
  (27, .areturn, 1, 0, [], [], [])], [])
def mX8_numberOf : sM := (4, 1, [
  (0, .iconst 0, 1, 0, [], [], []),
  (1, .istore_n 3, 1, 3, [], [], []),
  (2, .iload_n 3, 1, 3, [], [], []),
  (3, .aload_n 0, 1, 0, [], [], []),
  (4, .getfield 33, 3, 0, [], [8, 3], []),
  (7, .if_icmp .ge 27, 3, 34, [], [], []),
  (10, .iload_n 3, 1, 3, [], [], []),
  (11, .iconst 4, 1, 0, [], [], []),
  (12, .if_icmp .ge 22, 3, 34, [], [], []),
  (15, .aload_n 0, 1, 0, [], [], []),
  (16, .getfield 17, 3, 2, [], [8, 1], []),
  (19, .iload_n 3, 1, 3, [], [], []),
  (20, .laload, 1, 0, [], [], []),
  (21, .lload_n 1, 1, 1, [], [], []),
  (22, .lcmp, 1, 0, [], [], []),
  (23, .ifCond .ne 5, 3, 28, [], [], []),
  (26, .iload_n 3, 1, 3, [], [], []),
  (27, .ireturn, 1, 0, [], [], []),
  (28, .iinc 3 1, 3, 3, [], [], []),
  (31, .goto (-29), 3, 2, [], [], []),
  (34, .iconst (-1), 1, 0, [], [], []),
  (35, .ireturn, 1, 0, [], [], [])], [(2, [true, true, false, true])])
def mX8_allBits : sM := (3, 1, [
  (0, .iconst 0, 1, 0, [], [], []),
  (1, .istore_n 1, 1, 1, [], [], []),
  (2, .iconst 0, 1, 0, [], [], []),
  (3, .istore_n 2, 1, 2, [], [], []),
  (4, .iload_n 2, 1, 2, [], [], []),
  (5, .aload_n 0, 1, 0, [], [], []),
  (6, .getfield 33, 3, 0, [], [8, 3], []),
  (9, .if_icmp .ge 26, 3, 35, [], [], []),
  (12, .iload_n 2, 1, 2, [], [], []),
  (13, .iconst 4, 1, 0, [], [], []),
  (14, .if_icmp .ge 21, 3, 35, [], [], []),
  (17, .iload_n 1, 1, 1, [], [], []),
  (18, .aload_n 0, 1, 0, [], [], []),
  (19, .getfield 11, 3, 2, [], [8, 0], []),
  (22, .iload_n 2, 1, 2, [], [], []),
  (23, .aaload, 1, 0, [], [], []),
  (24, .getfield 43, 3, 0, [], [5, 2], []),
  (27, .iadd, 1, 0, [], [], []),
  (28, .istore_n 1, 1, 1, [], [], []),
  (29, .iinc 2 1, 3, 2, [], [], []),
  (32, .goto (-28), 3, 4, [], [], []),
  (35, .iload_n 1, 1, 1, [], [], []),
  (36, .ireturn, 1, 0, [], [], [])], [(4, [true, true, true])])
def mX8_readLines : sM := (4, 1, [
  (0, .aload_n 0, 1, 0, [], [], []),
  (1, .iconst 0, 1, 0, [], [], []),
  (2, .putfield 33, 3, 0, [], [8, 3], []),
  (5, .aload_n 0, 1, 0, [], [], []),
  (6, .bipush 8, 2, 0, [], [], []),
  (8, .putfield 28, 3, 0, [], [8, 4], []),
  (11, .aload_n 0, 1, 0, [], [], []),
  (12, .getfield 24, 3, 2, [], [8, 2], []),
  (15, .iconst 0, 1, 0, [], [], []),
  (16, .putfield 46, 3, 0, [], [6, 1], []),
  (19, .aload_n 0, 1, 0, [], [], []),
  (20, .iconst 0, 1, 0, [], [], []),
  (21, .putfield 47, 3, 3, [], [8, 5], []),
  (24, .iconst 0, 1, 0, [], [], []),
  (25, .istore_n 2, 1, 2, [], [], []),
  (26, .iconst 0, 1, 0, [], [], []),
  (27, .istore_n 3, 1, 3, [], [], []),
  (28, .iload_n 3, 1, 3, [], [], []),
  (29, .sipush 940, 3, 0, [], [], []),
  (32, .if_icmp .ge 93, 3, 125, [], [], []),
  (35, .aload_n 1, 1, 1, [], [], []),
  (36, .invokevirtual 51, 3, 19, [4, 0], [4], []),
  (39, .ifCond .eq 86, 3, 125, [], [], []),
  (42, .aload_n 1, 1, 1, [], [], []),
  (43, .getfield 57, 3, 2, [], [4, 9], []),
  (46, .getstatic 61, 3, 0, [], [1], []),
  (49, .if_acmp .ne 20, 3, 69, [], [], []),
  (52, .aload_n 0, 1, 0, [], [], []),
  (53, .aload_n 1, 1, 1, [], [], []),
  (54, .iload_n 2, 1, 2, [], [], []),
  (55, .ifCond .ne 7, 3, 62, [], [], []),
  (58, .iconst 1, 1, 0, [], [], []),
  (59, .goto 4, 3, 63, [], [], []),
  (62, .iconst 0, 1, 0, [], [], []),
  (63, .invokevirtual 66, 3, 81, [0, 2], [8], []),
  (66, .goto 44, 3, 110, [], [], []),
  (69, .aload_n 1, 1, 1, [], [], []),
  (70, .getfield 57, 3, 2, [], [4, 9], []),
  (73, .getstatic 70, 3, 0, [], [2], []),
  (76, .if_acmp .ne 11, 3, 87, [], [], []),
  (79, .aload_n 0, 1, 0, [], [], []),
  (80, .aload_n 1, 1, 1, [], [], []),
  (81, .invokevirtual 73, 3, 82, [0, 1], [8], []),
  (84, .goto 26, 3, 110, [], [], []),
  (87, .aload_n 1, 1, 1, [], [], []),
  (88, .getfield 57, 3, 2, [], [4, 9], []),
  (91, .getstatic 77, 3, 0, [], [3], []),
  (94, .if_acmp .ne 11, 3, 105, [], [], []),
  (97, .aload_n 0, 1, 0, [], [], []),
  (98, .aload_n 1, 1, 1, [], [], []),
  (99, .invokevirtual 80, 3, 84, [0, 1], [8], []),
  (102, .goto 8, 3, 110, [], [], []),
  (105, .aload_n 1, 1, 1, [], [], []),
  (106, .iconst 1, 1, 0, [], [], []),
  (107, .invokevirtual 83, 3, 20, [0, 1], [4], []),
  (110, .aload_n 1, 1, 1, [], [], []),
  (111, .bipush 59, 2, 0, [], [], []),
  (113, .invokevirtual 87, 3, 23, [0, 1], [4], []),
  (116, .iinc 2 1, 3, 2, [], [], []),
  (119, .iinc 3 1, 3, 3, [], [], []),
  (122, .goto (-94), 3, 28, [], [], []),
  (125, .iload_n 2, 1, 2, [], [], []),
  (126, .ireturn, 1, 0, [], [], [])], [(28, [true, true, true, true])])
def mX8_readLeaf : sM := (4, 0, [
  (0, .iload_n 2, 1, 2, [], [], []),
  (1, .ifCond .ne 9, 3, 10, [], [], []),
  (4, .aload_n 1, 1, 1, [], [], []),
  (5, .iconst 3, 1, 0, [], [], []),
  (6, .invokevirtual 83, 3, 20, [0, 1], [4], []),
  (9, .return_, 1, 0, [], [], []),
  (10, .aload_n 1, 1, 1, [], [], []),
  (11, .invokevirtual 90, 3, 16, [0, 0], [4], []),
  (14, .aload_n 1, 1, 1, [], [], []),
  (15, .iconst 4, 1, 0, [], [], []),
  (16, .bipush 32, 2, 0, [], [], []),
  (18, .invokevirtual 93, 3, 25, [1, 2], [4], []),
  (21, .istore_n 3, 1, 3, [], [], []),
  (22, .iload_n 3, 1, 3, [], [], []),
  (23, .iconst (-1), 1, 0, [], [], []),
  (24, .if_icmp .eq 8, 3, 32, [], [], []),
  (27, .aload_n 0, 1, 0, [], [], []),
  (28, .iload_n 3, 1, 3, [], [], []),
  (29, .putfield 28, 3, 0, [], [8, 4], []),
  (32, .return_, 1, 0, [], [], [])], [])
def mX8_readRow : sM := (4, 0, [
  (0, .aload_n 0, 1, 0, [], [], []),
  (1, .getfield 33, 3, 0, [], [8, 3], []),
  (4, .iconst 4, 1, 0, [], [], []),
  (5, .if_icmp .lt 9, 3, 14, [], [], []),
  (8, .aload_n 1, 1, 1, [], [], []),
  (9, .iconst 4, 1, 0, [], [], []),
  (10, .invokevirtual 83, 3, 20, [0, 1], [4], []),
  (13, .return_, 1, 0, [], [], []),
  (14, .aload_n 1, 1, 1, [], [], []),
  (15, .invokevirtual 90, 3, 16, [0, 0], [4], []),
  (18, .aload_n 1, 1, 1, [], [], []),
  (19, .invokevirtual 97, 3, 21, [4, 0], [4], []),
  (22, .ifCond .ne 9, 3, 31, [], [], []),
  (25, .aload_n 1, 1, 1, [], [], []),
  (26, .iconst 1, 1, 0, [], [], []),
  (27, .invokevirtual 83, 3, 20, [0, 1], [4], []),
  (30, .return_, 1, 0, [], [], []),
  (31, .aload_n 0, 1, 0, [], [], []),
  (32, .aload_n 1, 1, 1, [], [], []),
  (33, .getfield 100, 3, 1, [], [4, 8], []),
  (36, .invokevirtual 104, 3, 78, [1, 1], [8], []),
  (39, .iconst (-1), 1, 0, [], [], []),
  (40, .if_icmp .eq 9, 3, 49, [], [], []),
  (43, .aload_n 1, 1, 1, [], [], []),
  (44, .iconst 3, 1, 0, [], [], []),
  (45, .invokevirtual 83, 3, 20, [0, 1], [4], []),
  (48, .return_, 1, 0, [], [], []),
  (49, .aload_n 0, 1, 0, [], [], []),
  (50, .getfield 17, 3, 2, [], [8, 1], []),
  (53, .aload_n 0, 1, 0, [], [], []),
  (54, .getfield 33, 3, 0, [], [8, 3], []),
  (57, .aload_n 1, 1, 1, [], [], []),
  (58, .getfield 100, 3, 1, [], [4, 8], []),
  (61, .lastore, 1, 0, [], [], []),
  (62, .aload_n 0, 1, 0, [], [], []),
  (63, .getfield 11, 3, 2, [], [8, 0], []),
  (66, .aload_n 0, 1, 0, [], [], []),
  (67, .getfield 33, 3, 0, [], [8, 3], []),
  (70, .aaload, 1, 0, [], [], []),
  (71, .astore_n 2, 1, 2, [], [], []),
  (72, .aload_n 2, 1, 2, [], [], []),
  (73, .invokevirtual 108, 3, 30, [0, 0], [5], []),
  (76, .aload_n 0, 1, 0, [], [], []),
  (77, .dup, 1, 0, [], [], []),
  (78, .getfield 33, 3, 0, [], [8, 3], []),
  (81, .iconst 1, 1, 0, [], [], []),
  (82, .iadd, 1, 0, [], [], []),
  (83, .putfield 33, 3, 0, [], [8, 3], []),
  (86, .aload_n 1, 1, 1, [], [], []),
  (87, .invokevirtual 90, 3, 16, [0, 0], [4], []),
  (90, .iconst 0, 1, 0, [], [], []),
  (91, .istore_n 3, 1, 3, [], [], []),
  (92, .iload_n 3, 1, 3, [], [], []),
  (93, .sipush 940, 3, 0, [], [], []),
  (96, .if_icmp .ge 30, 3, 126, [], [], []),
  (99, .aload_n 1, 1, 1, [], [], []),
  (100, .getfield 111, 3, 0, [], [4, 10], []),
  (103, .ifCond .ne 23, 3, 126, [], [], []),
  (106, .aload_n 1, 1, 1, [], [], []),
  (107, .getfield 114, 3, 0, [], [4, 4], []),
  (110, .iconst 2, 1, 0, [], [], []),
  (111, .if_icmp .ne 15, 3, 126, [], [], []),
  (114, .aload_n 0, 1, 0, [], [], []),
  (115, .aload_n 1, 1, 1, [], [], []),
  (116, .aload_n 2, 1, 2, [], [], []),
  (117, .invokevirtual 117, 3, 83, [0, 2], [8], []),
  (120, .iinc 3 1, 3, 3, [], [], []),
  (123, .goto (-31), 3, 92, [], [], []),
  (126, .return_, 1, 0, [], [], [])], [(92, [true, true, true, true])])
def mX8_readBits : sM := (6, 0, [
  (0, .aload_n 1, 1, 1, [], [], []),
  (1, .invokevirtual 121, 3, 27, [1, 0], [4], []),
  (4, .istore_n 3, 1, 3, [], [], []),
  (5, .iconst 0, 1, 0, [], [], []),
  (6, .istore 4, 2, 4, [], [], []),
  (8, .iload 4, 2, 4, [], [], []),
  (10, .iload_n 3, 1, 3, [], [], []),
  (11, .if_icmp .ge 37, 3, 48, [], [], []),
  (14, .aload_n 1, 1, 1, [], [], []),
  (15, .iload 4, 2, 4, [], [], []),
  (17, .invokevirtual 125, 3, 28, [1, 1], [4], []),
  (20, .istore 5, 2, 5, [], [], []),
  (22, .iload 5, 2, 5, [], [], []),
  (24, .bipush 105, 2, 0, [], [], []),
  (26, .if_icmp .eq 16, 3, 42, [], [], []),
  (29, .iload 5, 2, 5, [], [], []),
  (31, .bipush 111, 2, 0, [], [], []),
  (33, .if_icmp .eq 9, 3, 42, [], [], []),
  (36, .aload_n 1, 1, 1, [], [], []),
  (37, .iconst 2, 1, 0, [], [], []),
  (38, .invokevirtual 83, 3, 20, [0, 1], [4], []),
  (41, .return_, 1, 0, [], [], []),
  (42, .iinc 4 1, 3, 4, [], [], []),
  (45, .goto (-37), 3, 8, [], [], []),
  (48, .aload_n 2, 1, 2, [], [], []),
  (49, .getfield 43, 3, 0, [], [5, 2], []),
  (52, .iload_n 3, 1, 3, [], [], []),
  (53, .iadd, 1, 0, [], [], []),
  (54, .sipush 600, 3, 0, [], [], []),
  (57, .if_icmp .le 9, 3, 66, [], [], []),
  (60, .aload_n 1, 1, 1, [], [], []),
  (61, .iconst 4, 1, 0, [], [], []),
  (62, .invokevirtual 83, 3, 20, [0, 1], [4], []),
  (65, .return_, 1, 0, [], [], []),
  (66, .iconst 0, 1, 0, [], [], []),
  (67, .istore 4, 2, 4, [], [], []),
  (69, .iload 4, 2, 4, [], [], []),
  (71, .iload_n 3, 1, 3, [], [], []),
  (72, .if_icmp .ge 37, 3, 109, [], [], []),
  (75, .aload_n 2, 1, 2, [], [], []),
  (76, .aload_n 2, 1, 2, [], [], []),
  (77, .getfield 43, 3, 0, [], [5, 2], []),
  (80, .aload_n 1, 1, 1, [], [], []),
  (81, .iload 4, 2, 4, [], [], []),
  (83, .invokevirtual 125, 3, 28, [1, 1], [4], []),
  (86, .bipush 105, 2, 0, [], [], []),
  (88, .if_icmp .ne 7, 3, 95, [], [], []),
  (91, .iconst 1, 1, 0, [], [], []),
  (92, .goto 4, 3, 96, [], [], []),
  (95, .iconst 0, 1, 0, [], [], []),
  (96, .aload_n 0, 1, 0, [], [], []),
  (97, .getfield 28, 3, 0, [], [8, 4], []),
  (100, .invokevirtual 129, 3, 48, [0, 3], [5], []),
  (103, .iinc 4 1, 3, 4, [], [], []),
  (106, .goto (-37), 3, 69, [], [], []),
  (109, .aload_n 1, 1, 1, [], [], []),
  (110, .invokevirtual 90, 3, 16, [0, 0], [4], []),
  (113, .return_, 1, 0, [], [], [])], [(8, [true, true, true, true, true, false]), (69, [true, true, true, true, true, false])])
def mX8_readLetters : sM := (3, 0, [
  (0, .aload_n 0, 1, 0, [], [], []),
  (1, .getfield 47, 3, 3, [], [8, 5], []),
  (4, .ifCond .eq 9, 3, 13, [], [], []),
  (7, .aload_n 1, 1, 1, [], [], []),
  (8, .iconst 3, 1, 0, [], [], []),
  (9, .invokevirtual 83, 3, 20, [0, 1], [4], []),
  (12, .return_, 1, 0, [], [], []),
  (13, .aload_n 0, 1, 0, [], [], []),
  (14, .iconst 1, 1, 0, [], [], []),
  (15, .putfield 47, 3, 3, [], [8, 5], []),
  (18, .aload_n 1, 1, 1, [], [], []),
  (19, .invokevirtual 90, 3, 16, [0, 0], [4], []),
  (22, .iconst 0, 1, 0, [], [], []),
  (23, .istore_n 2, 1, 2, [], [], []),
  (24, .iload_n 2, 1, 2, [], [], []),
  (25, .sipush 940, 3, 0, [], [], []),
  (28, .if_icmp .ge 29, 3, 57, [], [], []),
  (31, .aload_n 1, 1, 1, [], [], []),
  (32, .getfield 111, 3, 0, [], [4, 10], []),
  (35, .ifCond .ne 22, 3, 57, [], [], []),
  (38, .aload_n 1, 1, 1, [], [], []),
  (39, .getfield 114, 3, 0, [], [4, 4], []),
  (42, .iconst 2, 1, 0, [], [], []),
  (43, .if_icmp .ne 14, 3, 57, [], [], []),
  (46, .aload_n 0, 1, 0, [], [], []),
  (47, .aload_n 1, 1, 1, [], [], []),
  (48, .invokevirtual 133, 3, 85, [0, 1], [8], []),
  (51, .iinc 2 1, 3, 2, [], [], []),
  (54, .goto (-30), 3, 24, [], [], []),
  (57, .return_, 1, 0, [], [], [])], [(24, [true, true, true])])
def mX8_readLettersOfWord : sM := (4, 0, [
  (0, .aload_n 1, 1, 1, [], [], []),
  (1, .invokevirtual 121, 3, 27, [1, 0], [4], []),
  (4, .istore_n 2, 1, 2, [], [], []),
  (5, .iconst 0, 1, 0, [], [], []),
  (6, .istore_n 3, 1, 3, [], [], []),
  (7, .iload_n 3, 1, 3, [], [], []),
  (8, .iload_n 2, 1, 2, [], [], []),
  (9, .if_icmp .ge 29, 3, 38, [], [], []),
  (12, .aload_n 1, 1, 1, [], [], []),
  (13, .iload_n 3, 1, 3, [], [], []),
  (14, .invokevirtual 125, 3, 28, [1, 1], [4], []),
  (17, .bipush 97, 2, 0, [], [], []),
  (19, .isub, 1, 0, [], [], []),
  (20, .invokestatic 136, 3, 134, [4, 1], [], []),
  (23, .ifCond .ne 9, 3, 32, [], [], []),
  (26, .aload_n 1, 1, 1, [], [], []),
  (27, .iconst 2, 1, 0, [], [], []),
  (28, .invokevirtual 83, 3, 20, [0, 1], [4], []),
  (31, .return_, 1, 0, [], [], []),
  (32, .iinc 3 1, 3, 3, [], [], []),
  (35, .goto (-28), 3, 7, [], [], []),
  (38, .aload_n 0, 1, 0, [], [], []),
  (39, .getfield 24, 3, 2, [], [8, 2], []),
  (42, .getfield 46, 3, 0, [], [6, 1], []),
  (45, .iload_n 2, 1, 2, [], [], []),
  (46, .iadd, 1, 0, [], [], []),
  (47, .sipush 200, 3, 0, [], [], []),
  (50, .if_icmp .le 9, 3, 59, [], [], []),
  (53, .aload_n 1, 1, 1, [], [], []),
  (54, .iconst 4, 1, 0, [], [], []),
  (55, .invokevirtual 83, 3, 20, [0, 1], [4], []),
  (58, .return_, 1, 0, [], [], []),
  (59, .iconst 0, 1, 0, [], [], []),
  (60, .istore_n 3, 1, 3, [], [], []),
  (61, .iload_n 3, 1, 3, [], [], []),
  (62, .iload_n 2, 1, 2, [], [], []),
  (63, .if_icmp .ge 31, 3, 94, [], [], []),
  (66, .aload_n 0, 1, 0, [], [], []),
  (67, .getfield 24, 3, 2, [], [8, 2], []),
  (70, .aload_n 0, 1, 0, [], [], []),
  (71, .getfield 24, 3, 2, [], [8, 2], []),
  (74, .getfield 46, 3, 0, [], [6, 1], []),
  (77, .aload_n 1, 1, 1, [], [], []),
  (78, .iload_n 3, 1, 3, [], [], []),
  (79, .invokevirtual 125, 3, 28, [1, 1], [4], []),
  (82, .bipush 97, 2, 0, [], [], []),
  (84, .isub, 1, 0, [], [], []),
  (85, .invokevirtual 140, 3, 62, [0, 2], [6], []),
  (88, .iinc 3 1, 3, 3, [], [], []),
  (91, .goto (-30), 3, 61, [], [], []),
  (94, .aload_n 1, 1, 1, [], [], []),
  (95, .invokevirtual 90, 3, 16, [0, 0], [4], []),
  (98, .return_, 1, 0, [], [], [])], [(7, [true, true, true, true]), (61, [true, true, true, true])])
def mX8_whyNot : sM := (6, 1, [
  (0, .aload_n 1, 1, 1, [], [], []),
  (1, .getstatic 143, 3, 0, [], [10], []),
  (4, .if_acmp .ne 41, 3, 45, [], [], []),
  (7, .iload_n 2, 1, 2, [], [], []),
  (8, .ifCond .lt 14, 3, 22, [], [], []),
  (11, .iload_n 2, 1, 2, [], [], []),
  (12, .aload_n 0, 1, 0, [], [], []),
  (13, .getfield 24, 3, 2, [], [8, 2], []),
  (16, .getfield 46, 3, 0, [], [6, 1], []),
  (19, .if_icmp .le 7, 3, 26, [], [], []),
  (22, .iconst 1, 1, 0, [], [], []),
  (23, .goto 21, 3, 44, [], [], []),
  (26, .aload_n 0, 1, 0, [], [], []),
  (27, .getfield 24, 3, 2, [], [8, 2], []),
  (30, .getfield 46, 3, 0, [], [6, 1], []),
  (33, .sipush 200, 3, 0, [], [], []),
  (36, .if_icmp .lt 7, 3, 43, [], [], []),
  (39, .iconst 2, 1, 0, [], [], []),
  (40, .goto 4, 3, 44, [], [], []),
  (43, .iconst 0, 1, 0, [], [], []),
  (44, .ireturn, 1, 0, [], [], []),
  (45, .aload_n 1, 1, 1, [], [], []),
  (46, .getstatic 146, 3, 0, [], [11], []),
  (49, .if_acmp .ne 21, 3, 70, [], [], []),
  (52, .aload_n 0, 1, 0, [], [], []),
  (53, .getfield 24, 3, 2, [], [8, 2], []),
  (56, .iload_n 2, 1, 2, [], [], []),
  (57, .iload_n 3, 1, 3, [], [], []),
  (58, .invokevirtual 149, 3, 57, [4, 2], [6], []),
  (61, .ifCond .eq 7, 3, 68, [], [], []),
  (64, .iconst 0, 1, 0, [], [], []),
  (65, .goto 4, 3, 69, [], [], []),
  (68, .iconst 1, 1, 0, [], [], []),
  (69, .ireturn, 1, 0, [], [], []),
  (70, .aload_n 0, 1, 0, [], [], []),
  (71, .iload_n 2, 1, 2, [], [], []),
  (72, .invokevirtual 153, 3, 77, [3, 1], [8], []),
  (75, .astore 5, 2, 5, [], [], []),
  (77, .aload 5, 2, 5, [], [], []),
  (79, .ifnonnull 5, 3, 84, [], [], []),
  (82, .iconst 1, 1, 0, [], [], []),
  (83, .ireturn, 1, 0, [], [], []),
  (84, .aload_n 1, 1, 1, [], [], []),
  (85, .getstatic 157, 3, 0, [], [8], []),
  (88, .if_acmp .ne 15, 3, 103, [], [], []),
  (91, .aload_n 0, 1, 0, [], [], []),
  (92, .iload_n 3, 1, 3, [], [], []),
  (93, .invokevirtual 153, 3, 77, [3, 1], [8], []),
  (96, .iconst 0, 1, 0, [], [], []),
  (97, .aload 5, 2, 5, [], [], []),
  (99, .invokestatic 160, 3, 87, [1, 3], [], []),
  (102, .ireturn, 1, 0, [], [], []),
  (103, .aload_n 1, 1, 1, [], [], []),
  (104, .getstatic 164, 3, 0, [], [9], []),
  (107, .if_acmp .ne 16, 3, 123, [], [], []),
  (110, .aload 5, 2, 5, [], [], []),
  (112, .iload_n 3, 1, 3, [], [], []),
  (113, .aload_n 0, 1, 0, [], [], []),
  (114, .iload 4, 2, 4, [], [], []),
  (116, .invokevirtual 153, 3, 77, [3, 1], [8], []),
  (119, .invokestatic 160, 3, 87, [1, 3], [], []),
  (122, .ireturn, 1, 0, [], [], []),
  (123, .aload_n 1, 1, 1, [], [], []),
  (124, .getstatic 167, 3, 0, [], [4], []),
  (127, .if_acmp .ne 33, 3, 160, [], [], []),
  (130, .aload 5, 2, 5, [], [], []),
  (132, .iload_n 3, 1, 3, [], [], []),
  (133, .invokevirtual 170, 3, 32, [4, 1], [5], []),
  (136, .ifCond .ne 7, 3, 143, [], [], []),
  (139, .iconst 1, 1, 0, [], [], []),
  (140, .goto 19, 3, 159, [], [], []),
  (143, .aload 5, 2, 5, [], [], []),
  (145, .getfield 43, 3, 0, [], [5, 2], []),
  (148, .sipush 600, 3, 0, [], [], []),
  (151, .if_icmp .lt 7, 3, 158, [], [], []),
  (154, .iconst 2, 1, 0, [], [], []),
  (155, .goto 4, 3, 159, [], [], []),
  (158, .iconst 0, 1, 0, [], [], []),
  (159, .ireturn, 1, 0, [], [], []),
  (160, .aload_n 1, 1, 1, [], [], []),
  (161, .getstatic 173, 3, 0, [], [5], []),
  (164, .if_acmp .ne 34, 3, 198, [], [], []),
  (167, .aload 5, 2, 5, [], [], []),
  (169, .iload_n 3, 1, 3, [], [], []),
  (170, .invokevirtual 176, 3, 34, [1, 1], [5], []),
  (173, .iconst (-1), 1, 0, [], [], []),
  (174, .if_icmp .ne 7, 3, 181, [], [], []),
  (177, .iconst 1, 1, 0, [], [], []),
  (178, .goto 19, 3, 197, [], [], []),
  (181, .aload 5, 2, 5, [], [], []),
  (183, .iload_n 3, 1, 3, [], [], []),
  (184, .invokevirtual 176, 3, 34, [1, 1], [5], []),
  (187, .iload 4, 2, 4, [], [], []),
  (189, .if_icmp .ne 7, 3, 196, [], [], []),
  (192, .iconst 2, 1, 0, [], [], []),
  (193, .goto 4, 3, 197, [], [], []),
  (196, .iconst 0, 1, 0, [], [], []),
  (197, .ireturn, 1, 0, [], [], []),
  (198, .aload 5, 2, 5, [], [], []),
  (200, .iload_n 3, 1, 3, [], [], []),
  (201, .iload 4, 2, 4, [], [], []),
  (203, .invokevirtual 179, 3, 33, [4, 2], [5], []),
  (206, .ifCond .eq 7, 3, 213, [], [], []),
  (209, .iconst 0, 1, 0, [], [], []),
  (210, .goto 4, 3, 214, [], [], []),
  (213, .iconst 1, 1, 0, [], [], []),
  (214, .ireturn, 1, 0, [], [], [])], [])
def mX8_whyNotMoved : sM := (3, 1, [
  (0, .aload_n 0, 1, 0, [], [], []),
  (1, .ifnull 16, 3, 17, [], [], []),
  (4, .aload_n 2, 1, 2, [], [], []),
  (5, .ifnull 12, 3, 17, [], [], []),
  (8, .aload_n 0, 1, 0, [], [], []),
  (9, .iload_n 1, 1, 1, [], [], []),
  (10, .invokevirtual 176, 3, 34, [1, 1], [5], []),
  (13, .iconst (-1), 1, 0, [], [], []),
  (14, .if_icmp .ne 5, 3, 19, [], [], []),
  (17, .iconst 1, 1, 0, [], [], []),
  (18, .ireturn, 1, 0, [], [], []),
  (19, .aload_n 2, 1, 2, [], [], []),
  (20, .getfield 43, 3, 0, [], [5, 2], []),
  (23, .aload_n 0, 1, 0, [], [], []),
  (24, .getfield 43, 3, 0, [], [5, 2], []),
  (27, .iadd, 1, 0, [], [], []),
  (28, .iload_n 1, 1, 1, [], [], []),
  (29, .isub, 1, 0, [], [], []),
  (30, .sipush 600, 3, 0, [], [], []),
  (33, .if_icmp .le 7, 3, 40, [], [], []),
  (36, .iconst 2, 1, 0, [], [], []),
  (37, .goto 4, 3, 41, [], [], []),
  (40, .iconst 0, 1, 0, [], [], []),
  (41, .ireturn, 1, 0, [], [], [])], [])
def mX8_act : sM := (7, 0, [
  (0, .aload_n 1, 1, 1, [], [], []),
  (1, .getstatic 143, 3, 0, [], [10], []),
  (4, .if_acmp .ne 13, 3, 17, [], [], []),
  (7, .aload_n 0, 1, 0, [], [], []),
  (8, .getfield 24, 3, 2, [], [8, 2], []),
  (11, .iload_n 2, 1, 2, [], [], []),
  (12, .iload_n 3, 1, 3, [], [], []),
  (13, .invokevirtual 140, 3, 62, [0, 2], [6], []),
  (16, .return_, 1, 0, [], [], []),
  (17, .aload_n 1, 1, 1, [], [], []),
  (18, .getstatic 146, 3, 0, [], [11], []),
  (21, .if_acmp .ne 13, 3, 34, [], [], []),
  (24, .aload_n 0, 1, 0, [], [], []),
  (25, .getfield 24, 3, 2, [], [8, 2], []),
  (28, .iload_n 2, 1, 2, [], [], []),
  (29, .iload_n 3, 1, 3, [], [], []),
  (30, .invokevirtual 180, 3, 63, [0, 2], [6], []),
  (33, .return_, 1, 0, [], [], []),
  (34, .aload_n 0, 1, 0, [], [], []),
  (35, .iload_n 2, 1, 2, [], [], []),
  (36, .invokevirtual 153, 3, 77, [3, 1], [8], []),
  (39, .astore 5, 2, 5, [], [], []),
  (41, .aload_n 1, 1, 1, [], [], []),
  (42, .getstatic 157, 3, 0, [], [8], []),
  (45, .if_acmp .ne 11, 3, 56, [], [], []),
  (48, .aload_n 0, 1, 0, [], [], []),
  (49, .iload_n 3, 1, 3, [], [], []),
  (50, .invokevirtual 153, 3, 77, [3, 1], [8], []),
  (53, .goto 21, 3, 74, [], [], []),
  (56, .aload_n 1, 1, 1, [], [], []),
  (57, .getstatic 164, 3, 0, [], [9], []),
  (60, .if_acmp .ne 12, 3, 72, [], [], []),
  (63, .aload_n 0, 1, 0, [], [], []),
  (64, .iload 4, 2, 4, [], [], []),
  (66, .invokevirtual 153, 3, 77, [3, 1], [8], []),
  (69, .goto 5, 3, 74, [], [], []),
  (72, .aload 5, 2, 5, [], [], []),
  (74, .astore 6, 2, 6, [], [], []),
  (76, .aload 5, 2, 5, [], [], []),
  (78, .ifnull 8, 3, 86, [], [], []),
  (81, .aload 6, 2, 6, [], [], []),
  (83, .ifnonnull 4, 3, 87, [], [], []),
  (86, .return_, 1, 0, [], [], []),
  (87, .aload_n 1, 1, 1, [], [], []),
  (88, .getstatic 167, 3, 0, [], [4], []),
  (91, .if_acmp .ne 18, 3, 109, [], [], []),
  (94, .aload 5, 2, 5, [], [], []),
  (96, .iload_n 3, 1, 3, [], [], []),
  (97, .iload 4, 2, 4, [], [], []),
  (99, .aload_n 0, 1, 0, [], [], []),
  (100, .getfield 28, 3, 0, [], [8, 4], []),
  (103, .invokevirtual 129, 3, 48, [0, 3], [5], []),
  (106, .goto 123, 3, 229, [], [], []),
  (109, .aload_n 1, 1, 1, [], [], []),
  (110, .getstatic 173, 3, 0, [], [5], []),
  (113, .if_acmp .ne 13, 3, 126, [], [], []),
  (116, .aload 5, 2, 5, [], [], []),
  (118, .iload_n 3, 1, 3, [], [], []),
  (119, .iconst 1, 1, 0, [], [], []),
  (120, .invokevirtual 183, 3, 52, [0, 2], [5], []),
  (123, .goto 106, 3, 229, [], [], []),
  (126, .aload_n 1, 1, 1, [], [], []),
  (127, .getstatic 186, 3, 0, [], [6], []),
  (130, .if_acmp .ne 18, 3, 148, [], [], []),
  (133, .aload 5, 2, 5, [], [], []),
  (135, .iload_n 3, 1, 3, [], [], []),
  (136, .iload 4, 2, 4, [], [], []),
  (138, .aload_n 0, 1, 0, [], [], []),
  (139, .getfield 28, 3, 0, [], [8, 4], []),
  (142, .invokevirtual 189, 3, 50, [0, 3], [5], []),
  (145, .goto 84, 3, 229, [], [], []),
  (148, .aload_n 1, 1, 1, [], [], []),
  (149, .getstatic 191, 3, 0, [], [7], []),
  (152, .if_acmp .ne 14, 3, 166, [], [], []),
  (155, .aload 5, 2, 5, [], [], []),
  (157, .iload_n 3, 1, 3, [], [], []),
  (158, .iload 4, 2, 4, [], [], []),
  (160, .invokevirtual 183, 3, 52, [0, 2], [5], []),
  (163, .goto 66, 3, 229, [], [], []),
  (166, .aload_n 1, 1, 1, [], [], []),
  (167, .getstatic 157, 3, 0, [], [8], []),
  (170, .if_acmp .ne 23, 3, 193, [], [], []),
  (173, .aload 5, 2, 5, [], [], []),
  (175, .aload 6, 2, 6, [], [], []),
  (177, .iconst 0, 1, 0, [], [], []),
  (178, .aload_n 0, 1, 0, [], [], []),
  (179, .getfield 28, 3, 0, [], [8, 4], []),
  (182, .invokevirtual 194, 3, 53, [0, 3], [5], []),
  (185, .aload 6, 2, 6, [], [], []),
  (187, .invokevirtual 108, 3, 30, [0, 0], [5], []),
  (190, .goto 39, 3, 229, [], [], []),
  (193, .aload_n 1, 1, 1, [], [], []),
  (194, .getstatic 164, 3, 0, [], [9], []),
  (197, .if_acmp .ne 32, 3, 229, [], [], []),
  (200, .aload 6, 2, 6, [], [], []),
  (202, .aload 5, 2, 5, [], [], []),
  (204, .iload_n 3, 1, 3, [], [], []),
  (205, .aload_n 0, 1, 0, [], [], []),
  (206, .getfield 28, 3, 0, [], [8, 4], []),
  (209, .invokevirtual 194, 3, 53, [0, 3], [5], []),
  (212, .aload 5, 2, 5, [], [], []),
  (214, .iload_n 3, 1, 3, [], [], []),
  (215, .aload 5, 2, 5, [], [], []),
  (217, .getfield 43, 3, 0, [], [5, 2], []),
  (220, .iload_n 3, 1, 3, [], [], []),
  (221, .isub, 1, 0, [], [], []),
  (222, .aload_n 0, 1, 0, [], [], []),
  (223, .getfield 28, 3, 0, [], [8, 4], []),
  (226, .invokevirtual 189, 3, 50, [0, 3], [5], []),
  (229, .return_, 1, 0, [], [], [])], [(74, [true, true, false, true, true, true, false])])
def mX9_height : sM := (3, 1, [
  (0, .iconst 0, 1, 0, [], [], []),
  (1, .istore_n 1, 1, 1, [], [], []),
  (2, .iload_n 0, 1, 0, [], [], []),
  (3, .istore_n 2, 1, 2, [], [], []),
  (4, .iload_n 2, 1, 2, [], [], []),
  (5, .iconst 1, 1, 0, [], [], []),
  (6, .if_icmp .le 15, 3, 21, [], [], []),
  (9, .iinc 1 1, 3, 1, [], [], []),
  (12, .iload_n 2, 1, 2, [], [], []),
  (13, .iload_n 2, 1, 2, [], [], []),
  (14, .iconst 2, 1, 0, [], [], []),
  (15, .idiv, 1, 0, [], [], []),
  (16, .isub, 1, 0, [], [], []),
  (17, .istore_n 2, 1, 2, [], [], []),
  (18, .goto (-14), 3, 4, [], [], []),
  (21, .iload_n 1, 1, 1, [], [], []),
  (22, .ireturn, 1, 0, [], [], [])], [(4, [false, true, true])])
def mX9_inner : sM := (1, 1, [
  (0, .iload_n 0, 1, 0, [], [], []),
  (1, .iconst 1, 1, 0, [], [], []),
  (2, .if_icmp .le 9, 3, 11, [], [], []),
  (5, .iload_n 0, 1, 0, [], [], []),
  (6, .iconst 1, 1, 0, [], [], []),
  (7, .isub, 1, 0, [], [], []),
  (8, .goto 4, 3, 12, [], [], []),
  (11, .iconst 0, 1, 0, [], [], []),
  (12, .ireturn, 1, 0, [], [], [])], [])
def mX9_mixed : sM := (1, 1, [
  (0, .iload_n 0, 1, 0, [], [], []),
  (1, .iconst 0, 1, 0, [], [], []),
  (2, .invokestatic 7, 3, 92, [1, 2], [], []),
  (5, .ireturn, 1, 0, [], [], [])], [])
def mX9_triples : sM := (3, 1, [
  (0, .iload_n 0, 1, 0, [], [], []),
  (1, .iconst 3, 1, 0, [], [], []),
  (2, .if_icmp .le 9, 3, 11, [], [], []),
  (5, .iload_n 1, 1, 1, [], [], []),
  (6, .bipush 20, 2, 0, [], [], []),
  (8, .if_icmp .le 14, 3, 22, [], [], []),
  (11, .iload_n 0, 1, 0, [], [], []),
  (12, .iconst 3, 1, 0, [], [], []),
  (13, .if_icmp .ne 7, 3, 20, [], [], []),
  (16, .iconst 1, 1, 0, [], [], []),
  (17, .goto 4, 3, 21, [], [], []),
  (20, .iconst 0, 1, 0, [], [], []),
  (21, .ireturn, 1, 0, [], [], []),
  (22, .iload_n 0, 1, 0, [], [], []),
  (23, .iconst 2, 1, 0, [], [], []),
  (24, .idiv, 1, 0, [], [], []),
  (25, .istore_n 2, 1, 2, [], [], []),
  (26, .iload_n 0, 1, 0, [], [], []),
  (27, .iload_n 2, 1, 2, [], [], []),
  (28, .isub, 1, 0, [], [], []),
  (29, .iload_n 1, 1, 1, [], [], []),
  (30, .iconst 1, 1, 0, [], [], []),
  (31, .iadd, 1, 0, [], [], []),
  (32, .invokestatic 7, 3, 92, [1, 2], [], []),
  (35, .iload_n 2, 1, 2, [], [], []),
  (36, .iload_n 1, 1, 1, [], [], []),
  (37, .iconst 1, 1, 0, [], [], []),
  (38, .iadd, 1, 0, [], [], []),
  (39, .invokestatic 7, 3, 92, [1, 2], [], []),
  (42, .iadd, 1, 0, [], [], []),
  (43, .ireturn, 1, 0, [], [], [])], [])
def mX9_cost : sM := (3, 1, [
  (0, .iconst 5, 1, 0, [], [], []),
  (1, .aload_n 0, 1, 0, [], [], []),
  (2, .getfield 13, 3, 0, [], [5, 3], []),
  (5, .invokestatic 19, 3, 90, [1, 1], [], []),
  (8, .imul, 1, 0, [], [], []),
  (9, .istore_n 1, 1, 1, [], [], []),
  (10, .iconst 0, 1, 0, [], [], []),
  (11, .istore_n 2, 1, 2, [], [], []),
  (12, .iload_n 2, 1, 2, [], [], []),
  (13, .aload_n 0, 1, 0, [], [], []),
  (14, .getfield 13, 3, 0, [], [5, 3], []),
  (17, .if_icmp .ge 26, 3, 43, [], [], []),
  (20, .iload_n 1, 1, 1, [], [], []),
  (21, .aload_n 0, 1, 0, [], [], []),
  (22, .getfield 23, 3, 2, [], [5, 1], []),
  (25, .iload_n 2, 1, 2, [], [], []),
  (26, .iaload, 1, 0, [], [], []),
  (27, .bipush 31, 2, 0, [], [], []),
  (29, .iadd, 1, 0, [], [], []),
  (30, .bipush 32, 2, 0, [], [], []),
  (32, .idiv, 1, 0, [], [], []),
  (33, .iconst 4, 1, 0, [], [], []),
  (34, .iadd, 1, 0, [], [], []),
  (35, .iadd, 1, 0, [], [], []),
  (36, .istore_n 1, 1, 1, [], [], []),
  (37, .iinc 2 1, 3, 2, [], [], []),
  (40, .goto (-28), 3, 12, [], [], []),
  (43, .iload_n 1, 1, 1, [], [], []),
  (44, .ireturn, 1, 0, [], [], [])], [(12, [true, true, true])])
def mX10_withCode : sM := (3, 3, [
  (0, .iconst 0, 1, 0, [], [], []),
  (1, .istore_n 2, 1, 2, [], [], []),
  (2, .iload_n 2, 1, 2, [], [], []),
  (3, .getstatic 117, 3, 0, [], [24], []),
  (6, .arraylength, 1, 0, [], [], []),
  (7, .if_icmp .ge 28, 3, 35, [], [], []),
  (10, .getstatic 117, 3, 0, [], [24], []),
  (13, .iload_n 2, 1, 2, [], [], []),
  (14, .aaload, 1, 0, [], [], []),
  (15, .getfield 106, 3, 1, [], [30, 0], []),
  (18, .lload_n 0, 1, 0, [], [], []),
  (19, .lcmp, 1, 0, [], [], []),
  (20, .ifCond .ne 9, 3, 29, [], [], []),
  (23, .getstatic 117, 3, 0, [], [24], []),
  (26, .iload_n 2, 1, 2, [], [], []),
  (27, .aaload, 1, 0, [], [], []),
  (28, .areturn, 1, 0, [], [], []),
  (29, .iinc 2 1, 3, 2, [], [], []),
  (32, .goto (-30), 3, 2, [], [], []),
  (35, .aconst_null, 1, 0, [], [], []),
  (36, .areturn, 1, 0, [], [], [])], [(2, [true, false, true])])
def mX11_init : sM := (1, 0, [
  (0, .aload_n 0, 1, 0, [], [], []),
  (1, .invokespecial 3, 3, 0, [], [9], []),
  (4, .aload_n 0, 1, 0, [], [], []),
  (5, .sipush 940, 3, 0, [], [], []),
  (8, .newarray .int, 2, 0, [], [20], []),
  (10, .putfield 9, 3, 2, [], [9, 0], []),
  (13, .aload_n 0, 1, 0, [], [], []),
  (14, .new 13, 3, 12, [], [4], []),
  (17, .dup, 1, 0, [], [], []),
  (18, .invokespecial 15, 3, 14, [0], [4], []),
  (21, .putfield 16, 3, 2, [], [9, 2], []),
  (24, .aload_n 0, 1, 0, [], [], []),
  (25, .new 20, 3, 6, [], [8], []),
  (28, .dup, 1, 0, [], [], []),
  (29, .invokespecial 22, 3, 75, [0], [8], []),
  (32, .putfield 23, 3, 2, [], [9, 3], []),
  (35, .aload_n 0, 1, 0, [], [], []),
  (36, .new 20, 3, 6, [], [8], []),
  (39, .dup, 1, 0, [], [], []),
  (40, .invokespecial 22, 3, 75, [0], [8], []),
  (43, .putfield 27, 3, 2, [], [9, 4], []),
  (46, .aload_n 0, 1, 0, [], [], []),
  (47, .new 30, 3, 6, [], [7], []),
  (50, .dup, 1, 0, [], [], []),
  (51, .invokespecial 32, 3, 64, [0], [7], []),
  (54, .putfield 33, 3, 2, [], [9, 5], []),
  (57, .aload_n 0, 1, 0, [], [], []),
  (58, .new 30, 3, 6, [], [7], []),
  (61, .dup, 1, 0, [], [], []),
  (62, .invokespecial 32, 3, 64, [0], [7], []),
  (65, .putfield 37, 3, 2, [], [9, 6], []),
  (68, .aload_n 0, 1, 0, [], [], []),
  (69, .new 40, 3, 6, [], [1], []),
  (72, .dup, 1, 0, [], [], []),
  (73, .invokespecial 42, 3, 0, [0], [1], []),
  (76, .putfield 43, 3, 2, [], [9, 7], []),
  (79, .aload_n 0, 1, 0, [], [], []),
  (80, .new 47, 3, 3, [], [3], []),
  (83, .dup, 1, 0, [], [], []),
  (84, .invokespecial 49, 3, 10, [0], [3], []),
  (87, .putfield 50, 3, 2, [], [9, 8], []),
  (90, .aload_n 0, 1, 0, [], [], []),
  (91, .iconst 2, 1, 0, [], [], []),
  (92, .anewarray 20, 3, 0, [], [25], []),
  (95, .putfield 54, 3, 2, [], [9, 9], []),
  (98, .aload_n 0, 1, 0, [], [], []),
  (99, .iconst 2, 1, 0, [], [], []),
  (100, .anewarray 30, 3, 0, [], [26], []),
  (103, .putfield 58, 3, 2, [], [9, 10], []),
  (106, .aload_n 0, 1, 0, [], [], []),
  (107, .sipush 600, 3, 0, [], [], []),
  (110, .newarray .int, 2, 0, [], [20], []),
  (112, .putfield 62, 3, 2, [], [9, 11], []),
  (115, .aload_n 0, 1, 0, [], [], []),
  (116, .iconst 4, 1, 0, [], [], []),
  (117, .newarray .int, 2, 0, [], [20], []),
  (119, .dup, 1, 0, [], [], []),
  (120, .iconst 0, 1, 0, [], [], []),
  (121, .iconst (-1), 1, 0, [], [], []),
  (122, .iastore, 1, 0, [], [], []),
  (123, .dup, 1, 0, [], [], []),
  (124, .iconst 1, 1, 0, [], [], []),
  (125, .iconst (-1), 1, 0, [], [], []),
  (126, .iastore, 1, 0, [], [], []),
  (127, .dup, 1, 0, [], [], []),
  (128, .iconst 2, 1, 0, [], [], []),
  (129, .iconst (-1), 1, 0, [], [], []),
  (130, .iastore, 1, 0, [], [], []),
  (131, .dup, 1, 0, [], [], []),
  (132, .iconst 3, 1, 0, [], [], []),
  (133, .iconst (-1), 1, 0, [], [], []),
  (134, .iastore, 1, 0, [], [], []),
  (135, .putfield 65, 3, 2, [], [9, 14], []),
  (138, .return_, 1, 0, [], [], [])], [])
def mX11_feed : sM := (6, 1, [
  (0, .aload_n 0, 1, 0, [], [], []),
  (1, .getfield 68, 3, 0, [], [9, 1], []),
  (4, .bipush 20, 2, 0, [], [], []),
  (6, .iadd, 1, 0, [], [], []),
  (7, .sipush 940, 3, 0, [], [], []),
  (10, .if_icmp .le 5, 3, 15, [], [], []),
  (13, .iconst (-1), 1, 0, [], [], []),
  (14, .ireturn, 1, 0, [], [], []),
  (15, .aload_n 0, 1, 0, [], [], []),
  (16, .iload_n 1, 1, 1, [], [], []),
  (17, .invokevirtual 72, 3, 97, [0, 1], [9], []),
  (20, .aload_n 0, 1, 0, [], [], []),
  (21, .iload_n 2, 1, 2, [], [], []),
  (22, .invokevirtual 72, 3, 97, [0, 1], [9], []),
  (25, .aload_n 0, 1, 0, [], [], []),
  (26, .iload_n 3, 1, 3, [], [], []),
  (27, .invokevirtual 72, 3, 97, [0, 1], [9], []),
  (30, .aload_n 0, 1, 0, [], [], []),
  (31, .iload 4, 2, 4, [], [], []),
  (33, .invokevirtual 72, 3, 97, [0, 1], [9], []),
  (36, .aload_n 0, 1, 0, [], [], []),
  (37, .iload 5, 2, 5, [], [], []),
  (39, .invokevirtual 72, 3, 97, [0, 1], [9], []),
  (42, .aload_n 0, 1, 0, [], [], []),
  (43, .getfield 68, 3, 0, [], [9, 1], []),
  (46, .ireturn, 1, 0, [], [], [])], [])
def mX11_feedBytes : sM := (3, 0, [
  (0, .bipush 24, 2, 0, [], [], []),
  (2, .istore_n 2, 1, 2, [], [], []),
  (3, .iload_n 2, 1, 2, [], [], []),
  (4, .ifCond .lt 45, 3, 49, [], [], []),
  (7, .aload_n 0, 1, 0, [], [], []),
  (8, .getfield 68, 3, 0, [], [9, 1], []),
  (11, .sipush 940, 3, 0, [], [], []),
  (14, .if_icmp .ge 35, 3, 49, [], [], []),
  (17, .aload_n 0, 1, 0, [], [], []),
  (18, .getfield 9, 3, 2, [], [9, 0], []),
  (21, .aload_n 0, 1, 0, [], [], []),
  (22, .getfield 68, 3, 0, [], [9, 1], []),
  (25, .iload_n 1, 1, 1, [], [], []),
  (26, .iload_n 2, 1, 2, [], [], []),
  (27, .iushr, 1, 0, [], [], []),
  (28, .sipush 255, 3, 0, [], [], []),
  (31, .iand, 1, 0, [], [], []),
  (32, .iastore, 1, 0, [], [], []),
  (33, .aload_n 0, 1, 0, [], [], []),
  (34, .dup, 1, 0, [], [], []),
  (35, .getfield 68, 3, 0, [], [9, 1], []),
  (38, .iconst 1, 1, 0, [], [], []),
  (39, .iadd, 1, 0, [], [], []),
  (40, .putfield 68, 3, 0, [], [9, 1], []),
  (43, .iinc 2 (-8), 3, 2, [], [], []),
  (46, .goto (-43), 3, 3, [], [], []),
  (49, .return_, 1, 0, [], [], [])], [(3, [true, true, true])])
def mX11_end : sM := (2, 4, [
  (0, .iload_n 1, 1, 1, [], [], []),
  (1, .ifCond .lt 11, 3, 12, [], [], []),
  (4, .iload_n 1, 1, 1, [], [], []),
  (5, .aload_n 0, 1, 0, [], [], []),
  (6, .getfield 68, 3, 0, [], [9, 1], []),
  (9, .if_icmp .le 5, 3, 14, [], [], []),
  (12, .iconst 0, 1, 0, [], [], []),
  (13, .ireturn, 1, 0, [], [], []),
  (14, .aload_n 0, 1, 0, [], [], []),
  (15, .iload_n 1, 1, 1, [], [], []),
  (16, .putfield 68, 3, 0, [], [9, 1], []),
  (19, .iconst 1, 1, 0, [], [], []),
  (20, .ireturn, 1, 0, [], [], [])], [])
def mX11_room : sM := (2, 1, [
  (0, .aload_n 0, 1, 0, [], [], []),
  (1, .getfield 16, 3, 2, [], [9, 2], []),
  (4, .aload_n 0, 1, 0, [], [], []),
  (5, .getfield 9, 3, 2, [], [9, 0], []),
  (8, .aload_n 0, 1, 0, [], [], []),
  (9, .getfield 68, 3, 0, [], [9, 1], []),
  (12, .sipush 900, 3, 0, [], [], []),
  (15, .invokevirtual 76, 3, 15, [0, 3], [4], []),
  (18, .aload_n 0, 1, 0, [], [], []),
  (19, .getfield 27, 3, 2, [], [9, 4], []),
  (22, .aload_n 0, 1, 0, [], [], []),
  (23, .getfield 16, 3, 2, [], [9, 2], []),
  (26, .invokevirtual 80, 3, 80, [1, 1], [8], []),
  (29, .istore_n 1, 1, 1, [], [], []),
  (30, .aload_n 0, 1, 0, [], [], []),
  (31, .invokevirtual 84, 3, 100, [4, 0], [9], []),
  (34, .ifCond .eq 13, 3, 47, [], [], []),
  (37, .iconst (-1), 1, 0, [], [], []),
  (38, .aload_n 0, 1, 0, [], [], []),
  (39, .getfield 16, 3, 2, [], [9, 2], []),
  (42, .getfield 88, 3, 0, [], [4, 11], []),
  (45, .isub, 1, 0, [], [], []),
  (46, .ireturn, 1, 0, [], [], []),
  (47, .aload_n 0, 1, 0, [], [], []),
  (48, .invokevirtual 91, 3, 101, [0, 0], [9], []),
  (51, .aload_n 0, 1, 0, [], [], []),
  (52, .getfield 33, 3, 2, [], [9, 5], []),
  (55, .invokevirtual 94, 3, 65, [0, 0], [7], []),
  (58, .aload_n 0, 1, 0, [], [], []),
  (59, .getfield 50, 3, 2, [], [9, 8], []),
  (62, .invokevirtual 97, 3, 11, [0, 0], [3], []),
  (65, .iload_n 1, 1, 1, [], [], []),
  (66, .ireturn, 1, 0, [], [], [])], [])
def mX11_closesWithFault : sM := (1, 4, [
  (0, .aload_n 0, 1, 0, [], [], []),
  (1, .iconst 0, 1, 0, [], [], []),
  (2, .putfield 68, 3, 0, [], [9, 1], []),
  (5, .aload_n 0, 1, 0, [], [], []),
  (6, .aload_n 0, 1, 0, [], [], []),
  (7, .getfield 16, 3, 2, [], [9, 2], []),
  (10, .getfield 100, 3, 0, [], [4, 10], []),
  (13, .putfield 103, 3, 0, [], [9, 13], []),
  (16, .aload_n 0, 1, 0, [], [], []),
  (17, .getfield 103, 3, 0, [], [9, 13], []),
  (20, .ifCond .eq 7, 3, 27, [], [], []),
  (23, .iconst 1, 1, 0, [], [], []),
  (24, .goto 4, 3, 28, [], [], []),
  (27, .iconst 0, 1, 0, [], [], []),
  (28, .ireturn, 1, 0, [], [], [])], [])
def mX11_swapStates : sM := (2, 0, [
  (0, .aload_n 0, 1, 0, [], [], []),
  (1, .getfield 23, 3, 2, [], [9, 3], []),
  (4, .astore_n 1, 1, 1, [], [], []),
  (5, .aload_n 0, 1, 0, [], [], []),
  (6, .aload_n 0, 1, 0, [], [], []),
  (7, .getfield 27, 3, 2, [], [9, 4], []),
  (10, .putfield 23, 3, 2, [], [9, 3], []),
  (13, .aload_n 0, 1, 0, [], [], []),
  (14, .aload_n 1, 1, 1, [], [], []),
  (15, .putfield 27, 3, 2, [], [9, 4], []),
  (18, .return_, 1, 0, [], [], [])], [])
def mX11_fault : sM := (1, 1, [
  (0, .aload_n 0, 1, 0, [], [], []),
  (1, .getfield 103, 3, 0, [], [9, 13], []),
  (4, .ireturn, 1, 0, [], [], [])], [])
def mX11_size : sM := (3, 1, [
  (0, .aload_n 0, 1, 0, [], [], []),
  (1, .getfield 23, 3, 2, [], [9, 3], []),
  (4, .iload_n 1, 1, 1, [], [], []),
  (5, .invokevirtual 106, 3, 77, [3, 1], [8], []),
  (8, .astore_n 2, 1, 2, [], [], []),
  (9, .aload_n 2, 1, 2, [], [], []),
  (10, .ifnonnull 7, 3, 17, [], [], []),
  (13, .iconst (-1), 1, 0, [], [], []),
  (14, .goto 7, 3, 21, [], [], []),
  (17, .aload_n 2, 1, 2, [], [], []),
  (18, .getfield 110, 3, 0, [], [5, 2], []),
  (21, .ireturn, 1, 0, [], [], [])], [])
def mX11_bit : sM := (4, 1, [
  (0, .aload_n 0, 1, 0, [], [], []),
  (1, .getfield 23, 3, 2, [], [9, 3], []),
  (4, .iload_n 1, 1, 1, [], [], []),
  (5, .invokevirtual 106, 3, 77, [3, 1], [8], []),
  (8, .astore_n 3, 1, 3, [], [], []),
  (9, .aload_n 3, 1, 3, [], [], []),
  (10, .ifnonnull 7, 3, 17, [], [], []),
  (13, .iconst (-1), 1, 0, [], [], []),
  (14, .goto 8, 3, 22, [], [], []),
  (17, .aload_n 3, 1, 3, [], [], []),
  (18, .iload_n 2, 1, 2, [], [], []),
  (19, .invokevirtual 115, 3, 34, [1, 1], [5], []),
  (22, .ireturn, 1, 0, [], [], [])], [])
def mX11_rank : sM := (5, 1, [
  (0, .aload_n 0, 1, 0, [], [], []),
  (1, .getfield 23, 3, 2, [], [9, 3], []),
  (4, .iload_n 1, 1, 1, [], [], []),
  (5, .invokevirtual 106, 3, 77, [3, 1], [8], []),
  (8, .astore 4, 2, 4, [], [], []),
  (10, .aload 4, 2, 4, [], [], []),
  (12, .ifnull 19, 3, 31, [], [], []),
  (15, .iload_n 3, 1, 3, [], [], []),
  (16, .invokestatic 119, 3, 106, [4, 1], [], []),
  (19, .ifCond .eq 12, 3, 31, [], [], []),
  (22, .aload 4, 2, 4, [], [], []),
  (24, .iload_n 2, 1, 2, [], [], []),
  (25, .invokevirtual 123, 3, 32, [4, 1], [5], []),
  (28, .ifCond .ne 5, 3, 33, [], [], []),
  (31, .iconst (-1), 1, 0, [], [], []),
  (32, .ireturn, 1, 0, [], [], []),
  (33, .aload 4, 2, 4, [], [], []),
  (35, .iconst 0, 1, 0, [], [], []),
  (36, .iload_n 2, 1, 2, [], [], []),
  (37, .iload_n 3, 1, 3, [], [], []),
  (38, .invokevirtual 126, 3, 35, [1, 3], [5], []),
  (41, .ireturn, 1, 0, [], [], [])], [])
def mX11_isBit : sM := (1, 4, [
  (0, .iload_n 0, 1, 0, [], [], []),
  (1, .ifCond .eq 8, 3, 9, [], [], []),
  (4, .iload_n 0, 1, 0, [], [], []),
  (5, .iconst 1, 1, 0, [], [], []),
  (6, .if_icmp .ne 7, 3, 13, [], [], []),
  (9, .iconst 1, 1, 0, [], [], []),
  (10, .goto 4, 3, 14, [], [], []),
  (13, .iconst 0, 1, 0, [], [], []),
  (14, .ireturn, 1, 0, [], [], [])], [])
def mX11_select : sM := (5, 1, [
  (0, .aload_n 0, 1, 0, [], [], []),
  (1, .getfield 23, 3, 2, [], [9, 3], []),
  (4, .iload_n 1, 1, 1, [], [], []),
  (5, .invokevirtual 106, 3, 77, [3, 1], [8], []),
  (8, .astore 4, 2, 4, [], [], []),
  (10, .aload 4, 2, 4, [], [], []),
  (12, .ifnull 14, 3, 26, [], [], []),
  (15, .iload_n 3, 1, 3, [], [], []),
  (16, .invokestatic 119, 3, 106, [4, 1], [], []),
  (19, .ifCond .eq 7, 3, 26, [], [], []),
  (22, .iload_n 2, 1, 2, [], [], []),
  (23, .ifCond .ge 5, 3, 28, [], [], []),
  (26, .iconst (-1), 1, 0, [], [], []),
  (27, .ireturn, 1, 0, [], [], []),
  (28, .aload 4, 2, 4, [], [], []),
  (30, .iload_n 2, 1, 2, [], [], []),
  (31, .iload_n 3, 1, 3, [], [], []),
  (32, .invokevirtual 130, 3, 36, [1, 2], [5], []),
  (35, .ireturn, 1, 0, [], [], [])], [])
def mX11_find : sM := (5, 1, [
  (0, .aload_n 0, 1, 0, [], [], []),
  (1, .getfield 23, 3, 2, [], [9, 3], []),
  (4, .iload_n 1, 1, 1, [], [], []),
  (5, .invokevirtual 106, 3, 77, [3, 1], [8], []),
  (8, .astore 4, 2, 4, [], [], []),
  (10, .aload 4, 2, 4, [], [], []),
  (12, .ifnull 14, 3, 26, [], [], []),
  (15, .iload_n 3, 1, 3, [], [], []),
  (16, .invokestatic 119, 3, 106, [4, 1], [], []),
  (19, .ifCond .eq 7, 3, 26, [], [], []),
  (22, .iload_n 2, 1, 2, [], [], []),
  (23, .ifCond .ge 5, 3, 28, [], [], []),
  (26, .iconst (-1), 1, 0, [], [], []),
  (27, .ireturn, 1, 0, [], [], []),
  (28, .aload 4, 2, 4, [], [], []),
  (30, .iload_n 2, 1, 2, [], [], []),
  (31, .iload_n 3, 1, 3, [], [], []),
  (32, .invokevirtual 134, 3, 37, [1, 2], [5], []),
  (35, .ireturn, 1, 0, [], [], [])], [])
def mX11_runs : sM := (3, 1, [
  (0, .aload_n 0, 1, 0, [], [], []),
  (1, .getfield 23, 3, 2, [], [9, 3], []),
  (4, .iload_n 1, 1, 1, [], [], []),
  (5, .invokevirtual 106, 3, 77, [3, 1], [8], []),
  (8, .astore_n 2, 1, 2, [], [], []),
  (9, .aload_n 2, 1, 2, [], [], []),
  (10, .ifnonnull 7, 3, 17, [], [], []),
  (13, .iconst (-1), 1, 0, [], [], []),
  (14, .goto 7, 3, 21, [], [], []),
  (17, .aload_n 2, 1, 2, [], [], []),
  (18, .invokevirtual 137, 3, 38, [1, 0], [5], []),
  (21, .ireturn, 1, 0, [], [], [])], [])
def mX11_longest : sM := (4, 1, [
  (0, .aload_n 0, 1, 0, [], [], []),
  (1, .getfield 23, 3, 2, [], [9, 3], []),
  (4, .iload_n 1, 1, 1, [], [], []),
  (5, .invokevirtual 106, 3, 77, [3, 1], [8], []),
  (8, .astore_n 3, 1, 3, [], [], []),
  (9, .aload_n 3, 1, 3, [], [], []),
  (10, .ifnull 10, 3, 20, [], [], []),
  (13, .iload_n 2, 1, 2, [], [], []),
  (14, .invokestatic 119, 3, 106, [4, 1], [], []),
  (17, .ifCond .ne 5, 3, 22, [], [], []),
  (20, .iconst (-1), 1, 0, [], [], []),
  (21, .ireturn, 1, 0, [], [], []),
  (22, .aload_n 3, 1, 3, [], [], []),
  (23, .iload_n 2, 1, 2, [], [], []),
  (24, .invokevirtual 141, 3, 39, [1, 1], [5], []),
  (27, .ireturn, 1, 0, [], [], [])], [])
def mX11_word : sM := (4, 1, [
  (0, .aload_n 0, 1, 0, [], [], []),
  (1, .getfield 23, 3, 2, [], [9, 3], []),
  (4, .iload_n 1, 1, 1, [], [], []),
  (5, .invokevirtual 106, 3, 77, [3, 1], [8], []),
  (8, .astore_n 3, 1, 3, [], [], []),
  (9, .aload_n 3, 1, 3, [], [], []),
  (10, .ifnull 11, 3, 21, [], [], []),
  (13, .aload_n 3, 1, 3, [], [], []),
  (14, .iload_n 2, 1, 2, [], [], []),
  (15, .invokevirtual 123, 3, 32, [4, 1], [5], []),
  (18, .ifCond .ne 13, 3, 31, [], [], []),
  (21, .new 144, 3, 6, [], [], []),
  (24, .dup, 1, 0, [], [], []),
  (31, .aload_n 3, 1, 3, [], [], []),
  (32, .iload_n 2, 1, 2, [], [], []),
  (33, .invokevirtual 151, 3, 40, [1, 1], [5], []),
  (36, .ireturn, 1, 0, [], [], [])], [])
def mX11_leaves : sM := (3, 1, [
  (0, .aload_n 0, 1, 0, [], [], []),
  (1, .getfield 23, 3, 2, [], [9, 3], []),
  (4, .iload_n 1, 1, 1, [], [], []),
  (5, .invokevirtual 106, 3, 77, [3, 1], [8], []),
  (8, .astore_n 2, 1, 2, [], [], []),
  (9, .aload_n 2, 1, 2, [], [], []),
  (10, .ifnonnull 7, 3, 17, [], [], []),
  (13, .iconst (-1), 1, 0, [], [], []),
  (14, .goto 7, 3, 21, [], [], []),
  (17, .aload_n 2, 1, 2, [], [], []),
  (18, .getfield 154, 3, 0, [], [5, 3], []),
  (21, .ireturn, 1, 0, [], [], [])], [])
def mX11_leaf : sM := (5, 1, [
  (0, .aload_n 0, 1, 0, [], [], []),
  (1, .getfield 23, 3, 2, [], [9, 3], []),
  (4, .iload_n 1, 1, 1, [], [], []),
  (5, .invokevirtual 106, 3, 77, [3, 1], [8], []),
  (8, .astore 4, 2, 4, [], [], []),
  (10, .aload 4, 2, 4, [], [], []),
  (12, .ifnull 23, 3, 35, [], [], []),
  (15, .iload_n 2, 1, 2, [], [], []),
  (16, .ifCond .lt 19, 3, 35, [], [], []),
  (19, .iload_n 2, 1, 2, [], [], []),
  (20, .aload 4, 2, 4, [], [], []),
  (22, .getfield 154, 3, 0, [], [5, 3], []),
  (25, .if_icmp .ge 10, 3, 35, [], [], []),
  (28, .iload_n 2, 1, 2, [], [], []),
  (29, .sipush 152, 3, 0, [], [], []),
  (32, .if_icmp .lt 5, 3, 37, [], [], []),
  (35, .iconst (-1), 1, 0, [], [], []),
  (36, .ireturn, 1, 0, [], [], []),
  (37, .iload_n 3, 1, 3, [], [], []),
  (38, .tableswitch 61 0 2 #[26, 34, 54], 26, 99, [], [], [(0, 64), (1, 72), (2, 92)]),
  (64, .aload 4, 2, 4, [], [], []),
  (66, .getfield 157, 3, 2, [], [5, 1], []),
  (69, .iload_n 2, 1, 2, [], [], []),
  (70, .iaload, 1, 0, [], [], []),
  (71, .ireturn, 1, 0, [], [], []),
  (72, .aload 4, 2, 4, [], [], []),
  (74, .aload 4, 2, 4, [], [], []),
  (76, .iload_n 2, 1, 2, [], [], []),
  (77, .invokevirtual 160, 3, 46, [1, 1], [5], []),
  (80, .aload 4, 2, 4, [], [], []),
  (82, .getfield 157, 3, 2, [], [5, 1], []),
  (85, .iload_n 2, 1, 2, [], [], []),
  (86, .iaload, 1, 0, [], [], []),
  (87, .iconst 1, 1, 0, [], [], []),
  (88, .invokevirtual 126, 3, 35, [1, 3], [5], []),
  (91, .ireturn, 1, 0, [], [], []),
  (92, .aload 4, 2, 4, [], [], []),
  (94, .iload_n 2, 1, 2, [], [], []),
  (95, .invokevirtual 160, 3, 46, [1, 1], [5], []),
  (98, .ireturn, 1, 0, [], [], []),
  (99, .iconst (-1), 1, 0, [], [], []),
  (100, .ireturn, 1, 0, [], [], [])], [])
def mX11_tree : sM := (4, 1, [
  (0, .aload_n 0, 1, 0, [], [], []),
  (1, .getfield 23, 3, 2, [], [9, 3], []),
  (4, .iload_n 1, 1, 1, [], [], []),
  (5, .invokevirtual 106, 3, 77, [3, 1], [8], []),
  (8, .astore_n 3, 1, 3, [], [], []),
  (9, .aload_n 3, 1, 3, [], [], []),
  (10, .ifnonnull 5, 3, 15, [], [], []),
  (13, .iconst (-1), 1, 0, [], [], []),
  (14, .ireturn, 1, 0, [], [], []),
  (15, .iload_n 2, 1, 2, [], [], []),
  (16, .tableswitch 61 0 3 #[32, 40, 48, 56], 32, 77, [], [], [(0, 48), (1, 56), (2, 64), (3, 72)]),
  (48, .aload_n 3, 1, 3, [], [], []),
  (49, .getfield 154, 3, 0, [], [5, 3], []),
  (52, .invokestatic 163, 3, 89, [1, 1], [], []),
  (55, .ireturn, 1, 0, [], [], []),
  (56, .aload_n 3, 1, 3, [], [], []),
  (57, .getfield 154, 3, 0, [], [5, 3], []),
  (60, .invokestatic 168, 3, 90, [1, 1], [], []),
  (63, .ireturn, 1, 0, [], [], []),
  (64, .aload_n 3, 1, 3, [], [], []),
  (65, .getfield 154, 3, 0, [], [5, 3], []),
  (68, .invokestatic 171, 3, 91, [1, 1], [], []),
  (71, .ireturn, 1, 0, [], [], []),
  (72, .aload_n 3, 1, 3, [], [], []),
  (73, .invokestatic 174, 3, 93, [1, 1], [], []),
  (76, .ireturn, 1, 0, [], [], []),
  (77, .iconst (-1), 1, 0, [], [], []),
  (78, .ireturn, 1, 0, [], [], [])], [])
def mX11_dense : sM := (5, 1, [
  (0, .aload_n 0, 1, 0, [], [], []),
  (1, .getfield 23, 3, 2, [], [9, 3], []),
  (4, .iload_n 1, 1, 1, [], [], []),
  (5, .invokevirtual 106, 3, 77, [3, 1], [8], []),
  (8, .astore 4, 2, 4, [], [], []),
  (10, .aload 4, 2, 4, [], [], []),
  (12, .ifnull 18, 3, 30, [], [], []),
  (15, .iload_n 3, 1, 3, [], [], []),
  (16, .iconst 1, 1, 0, [], [], []),
  (17, .if_icmp .lt 13, 3, 30, [], [], []),
  (20, .aload 4, 2, 4, [], [], []),
  (22, .iload_n 2, 1, 2, [], [], []),
  (23, .iload_n 3, 1, 3, [], [], []),
  (24, .invokevirtual 178, 3, 33, [4, 2], [5], []),
  (27, .ifCond .ne 13, 3, 40, [], [], []),
  (30, .new 144, 3, 6, [], [], []),
  (33, .dup, 1, 0, [], [], []),
  (40, .aload 4, 2, 4, [], [], []),
  (42, .iload_n 2, 1, 2, [], [], []),
  (43, .iload_n 3, 1, 3, [], [], []),
  (44, .iconst 1, 1, 0, [], [], []),
  (45, .invokevirtual 126, 3, 35, [1, 3], [5], []),
  (48, .i2l, 1, 0, [], [], []),
  (49, .iload_n 3, 1, 3, [], [], []),
  (50, .i2l, 1, 0, [], [], []),
  (51, .bipush 24, 2, 0, [], [], []),
  (53, .bipush 127, 2, 0, [], [], []),
  (55, .invokestatic 184, 3, 9, [2, 4], [], []),
  (58, .l2i, 1, 0, [], [], []),
  (59, .ireturn, 1, 0, [], [], [])], [])
def mX11_load : sM := (3, 1, [
  (0, .aload_n 0, 1, 0, [], [], []),
  (1, .getfield 23, 3, 2, [], [9, 3], []),
  (4, .iload_n 1, 1, 1, [], [], []),
  (5, .invokevirtual 106, 3, 77, [3, 1], [8], []),
  (8, .astore_n 2, 1, 2, [], [], []),
  (9, .aload_n 2, 1, 2, [], [], []),
  (10, .ifnull 10, 3, 20, [], [], []),
  (13, .aload_n 2, 1, 2, [], [], []),
  (14, .getfield 110, 3, 0, [], [5, 2], []),
  (17, .ifCond .ne 13, 3, 30, [], [], []),
  (20, .new 144, 3, 6, [], [], []),
  (23, .dup, 1, 0, [], [], []),
  (30, .bipush 32, 2, 0, [], [], []),
  (32, .aload_n 2, 1, 2, [], [], []),
  (33, .invokestatic 174, 3, 93, [1, 1], [], []),
  (36, .imul, 1, 0, [], [], []),
  (37, .i2l, 1, 0, [], [], []),
  (38, .aload_n 2, 1, 2, [], [], []),
  (39, .getfield 110, 3, 0, [], [5, 2], []),
  (42, .i2l, 1, 0, [], [], []),
  (43, .bipush 24, 2, 0, [], [], []),
  (45, .bipush 127, 2, 0, [], [], []),
  (47, .invokestatic 184, 3, 9, [2, 4], [], []),
  (50, .l2i, 1, 0, [], [], []),
  (51, .ireturn, 1, 0, [], [], [])], [])
def mX11_centre : sM := (7, 1, [
  (0, .aload_n 0, 1, 0, [], [], []),
  (1, .getfield 23, 3, 2, [], [9, 3], []),
  (4, .iload_n 1, 1, 1, [], [], []),
  (5, .invokevirtual 106, 3, 77, [3, 1], [8], []),
  (8, .astore_n 3, 1, 3, [], [], []),
  (9, .aload_n 3, 1, 3, [], [], []),
  (10, .ifnonnull 7, 3, 17, [], [], []),
  (13, .iconst 0, 1, 0, [], [], []),
  (14, .goto 13, 3, 27, [], [], []),
  (17, .aload_n 3, 1, 3, [], [], []),
  (18, .iconst 0, 1, 0, [], [], []),
  (19, .aload_n 3, 1, 3, [], [], []),
  (20, .getfield 110, 3, 0, [], [5, 2], []),
  (23, .iconst 1, 1, 0, [], [], []),
  (24, .invokevirtual 126, 3, 35, [1, 3], [5], []),
  (27, .istore 4, 2, 4, [], [], []),
  (29, .aload_n 3, 1, 3, [], [], []),
  (30, .ifnull 15, 3, 45, [], [], []),
  (33, .iload 4, 2, 4, [], [], []),
  (35, .ifCond .eq 10, 3, 45, [], [], []),
  (38, .iload_n 2, 1, 2, [], [], []),
  (39, .invokestatic 119, 3, 106, [4, 1], [], []),
  (42, .ifCond .ne 13, 3, 55, [], [], []),
  (45, .new 144, 3, 6, [], [], []),
  (48, .dup, 1, 0, [], [], []),
  (55, .aload_n 3, 1, 3, [], [], []),
  (56, .invokevirtual 194, 3, 41, [1, 0], [5], []),
  (59, .i2l, 1, 0, [], [], []),
  (60, .iload 4, 2, 4, [], [], []),
  (62, .i2l, 1, 0, [], [], []),
  (63, .bipush 53, 2, 0, [], [], []),
  (65, .sipush 1023, 3, 0, [], [], []),
  (68, .invokestatic 184, 3, 9, [2, 4], [], []),
  (71, .lstore 5, 2, 5, [], [], []),
  (73, .iload_n 2, 1, 2, [], [], []),
  (74, .ifCond .ne 12, 3, 86, [], [], []),
  (77, .lload 5, 2, 5, [], [], []),
  (79, .bipush 32, 2, 0, [], [], []),
  (81, .lushr, 1, 0, [], [], []),
  (82, .l2i, 1, 0, [], [], []),
  (83, .goto 6, 3, 89, [], [], []),
  (86, .lload 5, 2, 5, [], [], []),
  (88, .l2i, 1, 0, [], [], []),
  (89, .ireturn, 1, 0, [], [], [])], [])
def mX11_apart : sM := (5, 1, [
  (0, .aload_n 0, 1, 0, [], [], []),
  (1, .getfield 23, 3, 2, [], [9, 3], []),
  (4, .iload_n 1, 1, 1, [], [], []),
  (5, .invokevirtual 106, 3, 77, [3, 1], [8], []),
  (8, .astore_n 3, 1, 3, [], [], []),
  (9, .aload_n 0, 1, 0, [], [], []),
  (10, .getfield 23, 3, 2, [], [9, 3], []),
  (13, .iload_n 2, 1, 2, [], [], []),
  (14, .invokevirtual 106, 3, 77, [3, 1], [8], []),
  (17, .astore 4, 2, 4, [], [], []),
  (19, .aload_n 3, 1, 3, [], [], []),
  (20, .ifnull 8, 3, 28, [], [], []),
  (23, .aload 4, 2, 4, [], [], []),
  (25, .ifnonnull 7, 3, 32, [], [], []),
  (28, .iconst (-1), 1, 0, [], [], []),
  (29, .goto 9, 3, 38, [], [], []),
  (32, .aload_n 3, 1, 3, [], [], []),
  (33, .aload 4, 2, 4, [], [], []),
  (35, .invokevirtual 197, 3, 42, [1, 1], [5], []),
  (38, .ireturn, 1, 0, [], [], [])], [])
def mX11_differ : sM := (5, 1, [
  (0, .aload_n 0, 1, 0, [], [], []),
  (1, .getfield 23, 3, 2, [], [9, 3], []),
  (4, .iload_n 1, 1, 1, [], [], []),
  (5, .invokevirtual 106, 3, 77, [3, 1], [8], []),
  (8, .astore_n 3, 1, 3, [], [], []),
  (9, .aload_n 0, 1, 0, [], [], []),
  (10, .getfield 23, 3, 2, [], [9, 3], []),
  (13, .iload_n 2, 1, 2, [], [], []),
  (14, .invokevirtual 106, 3, 77, [3, 1], [8], []),
  (17, .astore 4, 2, 4, [], [], []),
  (19, .aload_n 3, 1, 3, [], [], []),
  (20, .ifnull 8, 3, 28, [], [], []),
  (23, .aload 4, 2, 4, [], [], []),
  (25, .ifnonnull 7, 3, 32, [], [], []),
  (28, .iconst (-1), 1, 0, [], [], []),
  (29, .goto 9, 3, 38, [], [], []),
  (32, .aload_n 3, 1, 3, [], [], []),
  (33, .aload 4, 2, 4, [], [], []),
  (35, .invokevirtual 200, 3, 43, [1, 1], [5], []),
  (38, .ireturn, 1, 0, [], [], [])], [])
def mX11_seek : sM := (5, 1, [
  (0, .aload_n 0, 1, 0, [], [], []),
  (1, .bipush 32, 2, 0, [], [], []),
  (3, .invokevirtual 203, 3, 121, [1, 1], [9], []),
  (6, .istore_n 2, 1, 2, [], [], []),
  (7, .aload_n 0, 1, 0, [], [], []),
  (8, .getfield 23, 3, 2, [], [9, 3], []),
  (11, .iload_n 1, 1, 1, [], [], []),
  (12, .invokevirtual 106, 3, 77, [3, 1], [8], []),
  (15, .astore_n 3, 1, 3, [], [], []),
  (16, .aload_n 3, 1, 3, [], [], []),
  (17, .ifnull 8, 3, 25, [], [], []),
  (20, .iload_n 2, 1, 2, [], [], []),
  (21, .iconst (-1), 1, 0, [], [], []),
  (22, .if_icmp .ne 5, 3, 27, [], [], []),
  (25, .iconst (-1), 1, 0, [], [], []),
  (26, .ireturn, 1, 0, [], [], []),
  (27, .aload_n 0, 1, 0, [], [], []),
  (28, .iconst 0, 1, 0, [], [], []),
  (29, .putfield 206, 3, 0, [], [9, 12], []),
  (32, .iconst 0, 1, 0, [], [], []),
  (33, .istore 4, 2, 4, [], [], []),
  (35, .iload 4, 2, 4, [], [], []),
  (37, .iload_n 2, 1, 2, [], [], []),
  (38, .iadd, 1, 0, [], [], []),
  (39, .aload_n 3, 1, 3, [], [], []),
  (40, .getfield 110, 3, 0, [], [5, 2], []),
  (43, .if_icmp .gt 44, 3, 87, [], [], []),
  (46, .aload_n 3, 1, 3, [], [], []),
  (47, .iload 4, 2, 4, [], [], []),
  (49, .aload_n 0, 1, 0, [], [], []),
  (50, .getfield 9, 3, 2, [], [9, 0], []),
  (53, .iload_n 2, 1, 2, [], [], []),
  (54, .invokevirtual 209, 3, 45, [4, 3], [5], []),
  (57, .ifCond .eq 24, 3, 81, [], [], []),
  (60, .aload_n 0, 1, 0, [], [], []),
  (61, .getfield 62, 3, 2, [], [9, 11], []),
  (64, .aload_n 0, 1, 0, [], [], []),
  (65, .getfield 206, 3, 0, [], [9, 12], []),
  (68, .iload 4, 2, 4, [], [], []),
  (70, .iastore, 1, 0, [], [], []),
  (71, .aload_n 0, 1, 0, [], [], []),
  (72, .dup, 1, 0, [], [], []),
  (73, .getfield 206, 3, 0, [], [9, 12], []),
  (76, .iconst 1, 1, 0, [], [], []),
  (77, .iadd, 1, 0, [], [], []),
  (78, .putfield 206, 3, 0, [], [9, 12], []),
  (81, .iinc 4 1, 3, 4, [], [], []),
  (84, .goto (-49), 3, 35, [], [], []),
  (87, .aload_n 0, 1, 0, [], [], []),
  (88, .getfield 206, 3, 0, [], [9, 12], []),
  (91, .ireturn, 1, 0, [], [], [])], [(35, [true, false, true, true, true])])
def mX11_takeBitsOfTape : sM := (4, 1, [
  (0, .aload_n 0, 1, 0, [], [], []),
  (1, .getfield 68, 3, 0, [], [9, 1], []),
  (4, .istore_n 2, 1, 2, [], [], []),
  (5, .aload_n 0, 1, 0, [], [], []),
  (6, .iconst 0, 1, 0, [], [], []),
  (7, .putfield 68, 3, 0, [], [9, 1], []),
  (10, .iload_n 2, 1, 2, [], [], []),
  (11, .iconst 1, 1, 0, [], [], []),
  (12, .if_icmp .lt 8, 3, 20, [], [], []),
  (15, .iload_n 2, 1, 2, [], [], []),
  (16, .iload_n 1, 1, 1, [], [], []),
  (17, .if_icmp .le 5, 3, 22, [], [], []),
  (20, .iconst (-1), 1, 0, [], [], []),
  (21, .ireturn, 1, 0, [], [], []),
  (22, .iconst 0, 1, 0, [], [], []),
  (23, .istore_n 3, 1, 3, [], [], []),
  (24, .iload_n 3, 1, 3, [], [], []),
  (25, .iload_n 2, 1, 2, [], [], []),
  (26, .if_icmp .ge 23, 3, 49, [], [], []),
  (29, .aload_n 0, 1, 0, [], [], []),
  (30, .getfield 9, 3, 2, [], [9, 0], []),
  (33, .iload_n 3, 1, 3, [], [], []),
  (34, .iaload, 1, 0, [], [], []),
  (35, .invokestatic 119, 3, 106, [4, 1], [], []),
  (38, .ifCond .ne 5, 3, 43, [], [], []),
  (41, .iconst (-1), 1, 0, [], [], []),
  (42, .ireturn, 1, 0, [], [], []),
  (43, .iinc 3 1, 3, 3, [], [], []),
  (46, .goto (-22), 3, 24, [], [], []),
  (49, .iload_n 2, 1, 2, [], [], []),
  (50, .ireturn, 1, 0, [], [], [])], [(24, [true, false, true, true])])
def mX11_seekAt : sM := (2, 1, [
  (0, .iload_n 1, 1, 1, [], [], []),
  (1, .ifCond .lt 18, 3, 19, [], [], []),
  (4, .iload_n 1, 1, 1, [], [], []),
  (5, .aload_n 0, 1, 0, [], [], []),
  (6, .getfield 206, 3, 0, [], [9, 12], []),
  (9, .if_icmp .ge 10, 3, 19, [], [], []),
  (12, .iload_n 1, 1, 1, [], [], []),
  (13, .sipush 600, 3, 0, [], [], []),
  (16, .if_icmp .lt 7, 3, 23, [], [], []),
  (19, .iconst (-1), 1, 0, [], [], []),
  (20, .goto 9, 3, 29, [], [], []),
  (23, .aload_n 0, 1, 0, [], [], []),
  (24, .getfield 62, 3, 2, [], [9, 11], []),
  (27, .iload_n 1, 1, 1, [], [], []),
  (28, .iaload, 1, 0, [], [], []),
  (29, .ireturn, 1, 0, [], [], [])], [])
def mX11_put : sM := (4, 1, [
  (0, .aload_n 0, 1, 0, [], [], []),
  (1, .getfield 23, 3, 2, [], [9, 3], []),
  (4, .iload_n 1, 1, 1, [], [], []),
  (5, .invokevirtual 106, 3, 77, [3, 1], [8], []),
  (8, .ifnull 10, 3, 18, [], [], []),
  (11, .iload_n 3, 1, 3, [], [], []),
  (12, .invokestatic 119, 3, 106, [4, 1], [], []),
  (15, .ifCond .ne 5, 3, 20, [], [], []),
  (18, .iconst (-1), 1, 0, [], [], []),
  (19, .ireturn, 1, 0, [], [], []),
  (20, .aload_n 0, 1, 0, [], [], []),
  (21, .getstatic 213, 3, 0, [], [4], []),
  (24, .iload_n 1, 1, 1, [], [], []),
  (25, .iload_n 2, 1, 2, [], [], []),
  (26, .iload_n 3, 1, 3, [], [], []),
  (27, .invokevirtual 219, 3, 124, [1, 4], [9], []),
  (30, .ireturn, 1, 0, [], [], [])], [])
def mX11_does : sM := (6, 1, [
  (0, .aload_n 0, 1, 0, [], [], []),
  (1, .getfield 23, 3, 2, [], [9, 3], []),
  (4, .aload_n 1, 1, 1, [], [], []),
  (5, .iload_n 2, 1, 2, [], [], []),
  (6, .iload_n 3, 1, 3, [], [], []),
  (7, .iload 4, 2, 4, [], [], []),
  (9, .invokevirtual 223, 3, 86, [1, 4], [8], []),
  (12, .istore 5, 2, 5, [], [], []),
  (14, .iload 5, 2, 5, [], [], []),
  (16, .ifCond .ne 26, 3, 42, [], [], []),
  (19, .aload_n 0, 1, 0, [], [], []),
  (20, .getfield 50, 3, 2, [], [9, 8], []),
  (23, .aload_n 0, 1, 0, [], [], []),
  (24, .getfield 23, 3, 2, [], [9, 3], []),
  (27, .invokevirtual 226, 3, 12, [0, 1], [3], []),
  (30, .aload_n 0, 1, 0, [], [], []),
  (31, .getfield 23, 3, 2, [], [9, 3], []),
  (34, .aload_n 1, 1, 1, [], [], []),
  (35, .iload_n 2, 1, 2, [], [], []),
  (36, .iload_n 3, 1, 3, [], [], []),
  (37, .iload 4, 2, 4, [], [], []),
  (39, .invokevirtual 230, 3, 88, [0, 4], [8], []),
  (42, .iload 5, 2, 5, [], [], []),
  (44, .ireturn, 1, 0, [], [], [])], [])
def mX11_set : sM := (4, 1, [
  (0, .aload_n 0, 1, 0, [], [], []),
  (1, .getfield 23, 3, 2, [], [9, 3], []),
  (4, .iload_n 1, 1, 1, [], [], []),
  (5, .invokevirtual 106, 3, 77, [3, 1], [8], []),
  (8, .ifnull 10, 3, 18, [], [], []),
  (11, .iload_n 3, 1, 3, [], [], []),
  (12, .invokestatic 119, 3, 106, [4, 1], [], []),
  (15, .ifCond .ne 5, 3, 20, [], [], []),
  (18, .iconst (-1), 1, 0, [], [], []),
  (19, .ireturn, 1, 0, [], [], []),
  (20, .aload_n 0, 1, 0, [], [], []),
  (21, .getstatic 234, 3, 0, [], [5], []),
  (24, .iload_n 1, 1, 1, [], [], []),
  (25, .iload_n 2, 1, 2, [], [], []),
  (26, .iload_n 3, 1, 3, [], [], []),
  (27, .invokevirtual 219, 3, 124, [1, 4], [9], []),
  (30, .ireturn, 1, 0, [], [], [])], [])
def mX11_cut : sM := (4, 1, [
  (0, .aload_n 0, 1, 0, [], [], []),
  (1, .getfield 23, 3, 2, [], [9, 3], []),
  (4, .iload_n 1, 1, 1, [], [], []),
  (5, .invokevirtual 106, 3, 77, [3, 1], [8], []),
  (8, .ifnull 15, 3, 23, [], [], []),
  (11, .iload_n 3, 1, 3, [], [], []),
  (12, .iconst 1, 1, 0, [], [], []),
  (13, .if_icmp .lt 10, 3, 23, [], [], []),
  (16, .iload_n 3, 1, 3, [], [], []),
  (17, .sipush 600, 3, 0, [], [], []),
  (20, .if_icmp .le 5, 3, 25, [], [], []),
  (23, .iconst (-1), 1, 0, [], [], []),
  (24, .ireturn, 1, 0, [], [], []),
  (25, .aload_n 0, 1, 0, [], [], []),
  (26, .getstatic 237, 3, 0, [], [6], []),
  (29, .iload_n 1, 1, 1, [], [], []),
  (30, .iload_n 2, 1, 2, [], [], []),
  (31, .iload_n 3, 1, 3, [], [], []),
  (32, .invokevirtual 219, 3, 124, [1, 4], [9], []),
  (35, .ireturn, 1, 0, [], [], [])], [])
def mX11_turn : sM := (4, 1, [
  (0, .aload_n 0, 1, 0, [], [], []),
  (1, .getfield 23, 3, 2, [], [9, 3], []),
  (4, .iload_n 1, 1, 1, [], [], []),
  (5, .invokevirtual 106, 3, 77, [3, 1], [8], []),
  (8, .ifnull 15, 3, 23, [], [], []),
  (11, .iload_n 3, 1, 3, [], [], []),
  (12, .iconst 1, 1, 0, [], [], []),
  (13, .if_icmp .lt 10, 3, 23, [], [], []),
  (16, .iload_n 3, 1, 3, [], [], []),
  (17, .sipush 600, 3, 0, [], [], []),
  (20, .if_icmp .le 5, 3, 25, [], [], []),
  (23, .iconst (-1), 1, 0, [], [], []),
  (24, .ireturn, 1, 0, [], [], []),
  (25, .aload_n 0, 1, 0, [], [], []),
  (26, .getstatic 240, 3, 0, [], [7], []),
  (29, .iload_n 1, 1, 1, [], [], []),
  (30, .iload_n 2, 1, 2, [], [], []),
  (31, .iload_n 3, 1, 3, [], [], []),
  (32, .invokevirtual 219, 3, 124, [1, 4], [9], []),
  (35, .ireturn, 1, 0, [], [], [])], [])
def mX11_paste : sM := (6, 1, [
  (0, .aload_n 0, 1, 0, [], [], []),
  (1, .bipush 64, 2, 0, [], [], []),
  (3, .invokevirtual 203, 3, 121, [1, 1], [9], []),
  (6, .istore_n 3, 1, 3, [], [], []),
  (7, .aload_n 0, 1, 0, [], [], []),
  (8, .getfield 23, 3, 2, [], [9, 3], []),
  (11, .iload_n 1, 1, 1, [], [], []),
  (12, .invokevirtual 106, 3, 77, [3, 1], [8], []),
  (15, .astore 4, 2, 4, [], [], []),
  (17, .aload 4, 2, 4, [], [], []),
  (19, .ifnull 8, 3, 27, [], [], []),
  (22, .iload_n 3, 1, 3, [], [], []),
  (23, .iconst (-1), 1, 0, [], [], []),
  (24, .if_icmp .ne 5, 3, 29, [], [], []),
  (27, .iconst (-1), 1, 0, [], [], []),
  (28, .ireturn, 1, 0, [], [], []),
  (29, .aload 4, 2, 4, [], [], []),
  (31, .iload_n 2, 1, 2, [], [], []),
  (32, .invokevirtual 123, 3, 32, [4, 1], [5], []),
  (35, .ifCond .ne 5, 3, 40, [], [], []),
  (38, .iconst 1, 1, 0, [], [], []),
  (39, .ireturn, 1, 0, [], [], []),
  (40, .aload 4, 2, 4, [], [], []),
  (42, .getfield 110, 3, 0, [], [5, 2], []),
  (45, .iload_n 3, 1, 3, [], [], []),
  (46, .iadd, 1, 0, [], [], []),
  (47, .sipush 600, 3, 0, [], [], []),
  (50, .if_icmp .le 5, 3, 55, [], [], []),
  (53, .iconst 2, 1, 0, [], [], []),
  (54, .ireturn, 1, 0, [], [], []),
  (55, .aload_n 0, 1, 0, [], [], []),
  (56, .getfield 50, 3, 2, [], [9, 8], []),
  (59, .aload_n 0, 1, 0, [], [], []),
  (60, .getfield 23, 3, 2, [], [9, 3], []),
  (63, .invokevirtual 226, 3, 12, [0, 1], [3], []),
  (66, .iconst 0, 1, 0, [], [], []),
  (67, .istore 5, 2, 5, [], [], []),
  (69, .iload 5, 2, 5, [], [], []),
  (71, .iload_n 3, 1, 3, [], [], []),
  (72, .if_icmp .ge 32, 3, 104, [], [], []),
  (75, .aload 4, 2, 4, [], [], []),
  (77, .iload_n 2, 1, 2, [], [], []),
  (78, .iload 5, 2, 5, [], [], []),
  (80, .iadd, 1, 0, [], [], []),
  (81, .aload_n 0, 1, 0, [], [], []),
  (82, .getfield 9, 3, 2, [], [9, 0], []),
  (85, .iload 5, 2, 5, [], [], []),
  (87, .iaload, 1, 0, [], [], []),
  (88, .aload_n 0, 1, 0, [], [], []),
  (89, .getfield 23, 3, 2, [], [9, 3], []),
  (92, .getfield 243, 3, 0, [], [8, 4], []),
  (95, .invokevirtual 246, 3, 48, [0, 3], [5], []),
  (98, .iinc 5 1, 3, 5, [], [], []),
  (101, .goto (-32), 3, 69, [], [], []),
  (104, .iconst 0, 1, 0, [], [], []),
  (105, .ireturn, 1, 0, [], [], [])], [(69, [true, false, true, true, true, true])])
def mX11_join : sM := (3, 1, [
  (0, .aload_n 0, 1, 0, [], [], []),
  (1, .getfield 23, 3, 2, [], [9, 3], []),
  (4, .iload_n 1, 1, 1, [], [], []),
  (5, .invokevirtual 106, 3, 77, [3, 1], [8], []),
  (8, .ifnull 19, 3, 27, [], [], []),
  (11, .aload_n 0, 1, 0, [], [], []),
  (12, .getfield 23, 3, 2, [], [9, 3], []),
  (15, .iload_n 2, 1, 2, [], [], []),
  (16, .invokevirtual 106, 3, 77, [3, 1], [8], []),
  (19, .ifnull 8, 3, 27, [], [], []),
  (22, .iload_n 1, 1, 1, [], [], []),
  (23, .iload_n 2, 1, 2, [], [], []),
  (24, .if_icmp .ne 5, 3, 29, [], [], []),
  (27, .iconst (-1), 1, 0, [], [], []),
  (28, .ireturn, 1, 0, [], [], []),
  (29, .aload_n 0, 1, 0, [], [], []),
  (30, .getstatic 250, 3, 0, [], [8], []),
  (33, .iload_n 1, 1, 1, [], [], []),
  (34, .iload_n 2, 1, 2, [], [], []),
  (35, .iconst 0, 1, 0, [], [], []),
  (36, .invokevirtual 219, 3, 124, [1, 4], [9], []),
  (39, .ireturn, 1, 0, [], [], [])], [])
def mX11_split : sM := (4, 1, [
  (0, .aload_n 0, 1, 0, [], [], []),
  (1, .getfield 23, 3, 2, [], [9, 3], []),
  (4, .iload_n 1, 1, 1, [], [], []),
  (5, .invokevirtual 106, 3, 77, [3, 1], [8], []),
  (8, .ifnull 19, 3, 27, [], [], []),
  (11, .aload_n 0, 1, 0, [], [], []),
  (12, .getfield 23, 3, 2, [], [9, 3], []),
  (15, .iload_n 3, 1, 3, [], [], []),
  (16, .invokevirtual 106, 3, 77, [3, 1], [8], []),
  (19, .ifnull 8, 3, 27, [], [], []),
  (22, .iload_n 1, 1, 1, [], [], []),
  (23, .iload_n 3, 1, 3, [], [], []),
  (24, .if_icmp .ne 5, 3, 29, [], [], []),
  (27, .iconst (-1), 1, 0, [], [], []),
  (28, .ireturn, 1, 0, [], [], []),
  (29, .aload_n 0, 1, 0, [], [], []),
  (30, .getstatic 253, 3, 0, [], [9], []),
  (33, .iload_n 1, 1, 1, [], [], []),
  (34, .iload_n 2, 1, 2, [], [], []),
  (35, .iload_n 3, 1, 3, [], [], []),
  (36, .invokevirtual 219, 3, 124, [1, 4], [9], []),
  (39, .ireturn, 1, 0, [], [], [])], [])
def mX11_letters : sM := (1, 1, [
  (0, .aload_n 0, 1, 0, [], [], []),
  (1, .getfield 23, 3, 2, [], [9, 3], []),
  (4, .getfield 256, 3, 2, [], [8, 2], []),
  (7, .getfield 260, 3, 0, [], [6, 1], []),
  (10, .ireturn, 1, 0, [], [], [])], [])
def mX11_letter : sM := (2, 1, [
  (0, .aload_n 0, 1, 0, [], [], []),
  (1, .getfield 23, 3, 2, [], [9, 3], []),
  (4, .getfield 256, 3, 2, [], [8, 2], []),
  (7, .iload_n 1, 1, 1, [], [], []),
  (8, .invokevirtual 263, 3, 56, [1, 1], [6], []),
  (11, .ireturn, 1, 0, [], [], [])], [])
def mX11_count : sM := (3, 1, [
  (0, .iload_n 1, 1, 1, [], [], []),
  (1, .invokestatic 266, 3, 134, [4, 1], [], []),
  (4, .ifCond .eq 21, 3, 25, [], [], []),
  (7, .iload_n 2, 1, 2, [], [], []),
  (8, .ifCond .lt 17, 3, 25, [], [], []),
  (11, .iload_n 2, 1, 2, [], [], []),
  (12, .aload_n 0, 1, 0, [], [], []),
  (13, .getfield 23, 3, 2, [], [9, 3], []),
  (16, .getfield 256, 3, 2, [], [8, 2], []),
  (19, .getfield 260, 3, 0, [], [6, 1], []),
  (22, .if_icmp .le 5, 3, 27, [], [], []),
  (25, .iconst (-1), 1, 0, [], [], []),
  (26, .ireturn, 1, 0, [], [], []),
  (27, .aload_n 0, 1, 0, [], [], []),
  (28, .getfield 23, 3, 2, [], [9, 3], []),
  (31, .getfield 256, 3, 2, [], [8, 2], []),
  (34, .iconst 0, 1, 0, [], [], []),
  (35, .iload_n 2, 1, 2, [], [], []),
  (36, .iload_n 1, 1, 1, [], [], []),
  (37, .invokevirtual 269, 3, 58, [1, 3], [6], []),
  (40, .ireturn, 1, 0, [], [], [])], [])
def mX11_isLetter : sM := (1, 4, [
  (0, .iload_n 0, 1, 0, [], [], []),
  (1, .ifCond .lt 13, 3, 14, [], [], []),
  (4, .iload_n 0, 1, 0, [], [], []),
  (5, .bipush 8, 2, 0, [], [], []),
  (7, .if_icmp .ge 7, 3, 14, [], [], []),
  (10, .iconst 1, 1, 0, [], [], []),
  (11, .goto 4, 3, 15, [], [], []),
  (14, .iconst 0, 1, 0, [], [], []),
  (15, .ireturn, 1, 0, [], [], [])], [])
def mX11_place : sM := (3, 1, [
  (0, .iload_n 1, 1, 1, [], [], []),
  (1, .invokestatic 266, 3, 134, [4, 1], [], []),
  (4, .ifCond .eq 7, 3, 11, [], [], []),
  (7, .iload_n 2, 1, 2, [], [], []),
  (8, .ifCond .ge 7, 3, 15, [], [], []),
  (11, .iconst (-1), 1, 0, [], [], []),
  (12, .goto 15, 3, 27, [], [], []),
  (15, .aload_n 0, 1, 0, [], [], []),
  (16, .getfield 23, 3, 2, [], [9, 3], []),
  (19, .getfield 256, 3, 2, [], [8, 2], []),
  (22, .iload_n 1, 1, 1, [], [], []),
  (23, .iload_n 2, 1, 2, [], [], []),
  (24, .invokevirtual 270, 3, 59, [1, 2], [6], []),
  (27, .ireturn, 1, 0, [], [], [])], [])
def mX11_least : sM := (4, 1, [
  (0, .iload_n 1, 1, 1, [], [], []),
  (1, .ifCond .lt 26, 3, 27, [], [], []),
  (4, .iload_n 2, 1, 2, [], [], []),
  (5, .iload_n 1, 1, 1, [], [], []),
  (6, .if_icmp .lt 21, 3, 27, [], [], []),
  (9, .iload_n 2, 1, 2, [], [], []),
  (10, .aload_n 0, 1, 0, [], [], []),
  (11, .getfield 23, 3, 2, [], [9, 3], []),
  (14, .getfield 256, 3, 2, [], [8, 2], []),
  (17, .getfield 260, 3, 0, [], [6, 1], []),
  (20, .if_icmp .gt 7, 3, 27, [], [], []),
  (23, .iload_n 3, 1, 3, [], [], []),
  (24, .ifCond .ge 5, 3, 29, [], [], []),
  (27, .iconst (-1), 1, 0, [], [], []),
  (28, .ireturn, 1, 0, [], [], []),
  (29, .aload_n 0, 1, 0, [], [], []),
  (30, .getfield 23, 3, 2, [], [9, 3], []),
  (33, .getfield 256, 3, 2, [], [8, 2], []),
  (36, .iload_n 1, 1, 1, [], [], []),
  (37, .iload_n 2, 1, 2, [], [], []),
  (38, .iload_n 3, 1, 3, [], [], []),
  (39, .invokevirtual 271, 3, 60, [1, 3], [6], []),
  (42, .ireturn, 1, 0, [], [], [])], [])
def mX11_node : sM := (3, 1, [
  (0, .iload_n 1, 1, 1, [], [], []),
  (1, .ifCond .lt 13, 3, 14, [], [], []),
  (4, .iload_n 1, 1, 1, [], [], []),
  (5, .bipush 7, 2, 0, [], [], []),
  (7, .if_icmp .ge 7, 3, 14, [], [], []),
  (10, .iload_n 2, 1, 2, [], [], []),
  (11, .ifCond .ge 7, 3, 18, [], [], []),
  (14, .iconst (-1), 1, 0, [], [], []),
  (15, .goto 15, 3, 30, [], [], []),
  (18, .aload_n 0, 1, 0, [], [], []),
  (19, .getfield 23, 3, 2, [], [9, 3], []),
  (22, .getfield 256, 3, 2, [], [8, 2], []),
  (25, .iload_n 1, 1, 1, [], [], []),
  (26, .iload_n 2, 1, 2, [], [], []),
  (27, .invokevirtual 274, 3, 61, [1, 2], [6], []),
  (30, .ireturn, 1, 0, [], [], [])], [])
def mX11_type : sM := (3, 1, [
  (0, .iload_n 2, 1, 2, [], [], []),
  (1, .invokestatic 266, 3, 134, [4, 1], [], []),
  (4, .ifCond .eq 16, 3, 20, [], [], []),
  (7, .aload_n 0, 1, 0, [], [], []),
  (8, .getstatic 277, 3, 0, [], [10], []),
  (11, .iload_n 1, 1, 1, [], [], []),
  (12, .iload_n 2, 1, 2, [], [], []),
  (13, .iconst 0, 1, 0, [], [], []),
  (14, .invokevirtual 219, 3, 124, [1, 4], [9], []),
  (17, .goto 4, 3, 21, [], [], []),
  (20, .iconst (-1), 1, 0, [], [], []),
  (21, .ireturn, 1, 0, [], [], [])], [])
def mX11_erase : sM := (3, 1, [
  (0, .iload_n 2, 1, 2, [], [], []),
  (1, .iconst 1, 1, 0, [], [], []),
  (2, .if_icmp .lt 10, 3, 12, [], [], []),
  (5, .iload_n 2, 1, 2, [], [], []),
  (6, .sipush 200, 3, 0, [], [], []),
  (9, .if_icmp .le 7, 3, 16, [], [], []),
  (12, .iconst (-1), 1, 0, [], [], []),
  (13, .goto 13, 3, 26, [], [], []),
  (16, .aload_n 0, 1, 0, [], [], []),
  (17, .getstatic 280, 3, 0, [], [11], []),
  (20, .iload_n 1, 1, 1, [], [], []),
  (21, .iload_n 2, 1, 2, [], [], []),
  (22, .iconst 0, 1, 0, [], [], []),
  (23, .invokevirtual 219, 3, 124, [1, 4], [9], []),
  (26, .ireturn, 1, 0, [], [], [])], [])
def mX11_undo : sM := (1, 1, [
  (0, .aload_n 0, 1, 0, [], [], []),
  (1, .getfield 50, 3, 2, [], [9, 8], []),
  (4, .aload_n 0, 1, 0, [], [], []),
  (5, .getfield 23, 3, 2, [], [9, 3], []),
  (8, .invokevirtual 283, 3, 13, [4, 1], [3], []),
  (11, .ifCond .eq 13, 3, 24, [], [], []),
  (14, .aload_n 0, 1, 0, [], [], []),
  (15, .getfield 50, 3, 2, [], [9, 8], []),
  (18, .getfield 287, 3, 0, [], [3, 2], []),
  (21, .goto 4, 3, 25, [], [], []),
  (24, .iconst (-1), 1, 0, [], [], []),
  (25, .ireturn, 1, 0, [], [], [])], [])
def mX11_drawn : sM := (6, 1, [
  (0, .iload_n 1, 1, 1, [], [], []),
  (1, .iconst 1, 1, 0, [], [], []),
  (2, .if_icmp .lt 9, 3, 11, [], [], []),
  (5, .iload_n 1, 1, 1, [], [], []),
  (6, .bipush 60, 2, 0, [], [], []),
  (8, .if_icmp .le 5, 3, 13, [], [], []),
  (11, .iconst (-1), 1, 0, [], [], []),
  (12, .ireturn, 1, 0, [], [], []),
  (13, .aload_n 0, 1, 0, [], [], []),
  (14, .getfield 27, 3, 2, [], [9, 4], []),
  (17, .aload_n 0, 1, 0, [], [], []),
  (18, .getfield 23, 3, 2, [], [9, 3], []),
  (21, .invokevirtual 290, 3, 76, [0, 1], [8], []),
  (24, .new 293, 3, 1, [], [2], []),
  (27, .dup, 1, 0, [], [], []),
  (28, .iload_n 2, 1, 2, [], [], []),
  (29, .invokespecial 295, 3, 5, [1], [2], []),
  (32, .astore_n 3, 1, 3, [], [], []),
  (33, .iconst 0, 1, 0, [], [], []),
  (34, .istore 4, 2, 4, [], [], []),
  (36, .iconst 0, 1, 0, [], [], []),
  (37, .istore 5, 2, 5, [], [], []),
  (39, .iload 5, 2, 5, [], [], []),
  (41, .iload_n 1, 1, 1, [], [], []),
  (42, .if_icmp .ge 30, 3, 72, [], [], []),
  (45, .iload 4, 2, 4, [], [], []),
  (47, .aload_n 3, 1, 3, [], [], []),
  (48, .aload_n 0, 1, 0, [], [], []),
  (49, .getfield 23, 3, 2, [], [9, 3], []),
  (52, .invokevirtual 297, 3, 7, [4, 1], [2], []),
  (55, .ifCond .eq 7, 3, 62, [], [], []),
  (58, .iconst 1, 1, 0, [], [], []),
  (59, .goto 4, 3, 63, [], [], []),
  (62, .iconst 0, 1, 0, [], [], []),
  (63, .iadd, 1, 0, [], [], []),
  (64, .istore 4, 2, 4, [], [], []),
  (66, .iinc 5 1, 3, 5, [], [], []),
  (69, .goto (-30), 3, 39, [], [], []),
  (72, .iload 4, 2, 4, [], [], []),
  (74, .ifCond .le 14, 3, 88, [], [], []),
  (77, .aload_n 0, 1, 0, [], [], []),
  (78, .getfield 50, 3, 2, [], [9, 8], []),
  (81, .aload_n 0, 1, 0, [], [], []),
  (82, .getfield 27, 3, 2, [], [9, 4], []),
  (85, .invokevirtual 226, 3, 12, [0, 1], [3], []),
  (88, .iload 4, 2, 4, [], [], []),
  (90, .ireturn, 1, 0, [], [], [])], [(39, [true, true, false, true, true, true])])
def mX11_book : sM := (3, 1, [
  (0, .iload_n 1, 1, 1, [], [], []),
  (1, .ifCond .eq 12, 3, 13, [], [], []),
  (4, .iload_n 1, 1, 1, [], [], []),
  (5, .iconst 1, 1, 0, [], [], []),
  (6, .if_icmp .eq 7, 3, 13, [], [], []),
  (9, .sipush (-1000), 3, 0, [], [], []),
  (12, .ireturn, 1, 0, [], [], []),
  (13, .aload_n 0, 1, 0, [], [], []),
  (14, .getfield 16, 3, 2, [], [9, 2], []),
  (17, .aload_n 0, 1, 0, [], [], []),
  (18, .getfield 9, 3, 2, [], [9, 0], []),
  (21, .aload_n 0, 1, 0, [], [], []),
  (22, .getfield 68, 3, 0, [], [9, 1], []),
  (25, .sipush 400, 3, 0, [], [], []),
  (28, .invokevirtual 76, 3, 15, [0, 3], [4], []),
  (31, .aload_n 0, 1, 0, [], [], []),
  (32, .getfield 43, 3, 2, [], [9, 7], []),
  (35, .aload_n 0, 1, 0, [], [], []),
  (36, .getfield 16, 3, 2, [], [9, 2], []),
  (39, .aload_n 0, 1, 0, [], [], []),
  (40, .getfield 23, 3, 2, [], [9, 3], []),
  (43, .invokevirtual 300, 3, 1, [0, 2], [1], []),
  (46, .aload_n 0, 1, 0, [], [], []),
  (47, .invokevirtual 84, 3, 100, [4, 0], [9], []),
  (50, .ifCond .eq 14, 3, 64, [], [], []),
  (53, .bipush (-2), 2, 0, [], [], []),
  (55, .aload_n 0, 1, 0, [], [], []),
  (56, .getfield 16, 3, 2, [], [9, 2], []),
  (59, .getfield 88, 3, 0, [], [4, 11], []),
  (62, .isub, 1, 0, [], [], []),
  (63, .ireturn, 1, 0, [], [], []),
  (64, .aload_n 0, 1, 0, [], [], []),
  (65, .getfield 27, 3, 2, [], [9, 4], []),
  (68, .aload_n 0, 1, 0, [], [], []),
  (69, .getfield 23, 3, 2, [], [9, 3], []),
  (72, .invokevirtual 290, 3, 76, [0, 1], [8], []),
  (75, .aload_n 0, 1, 0, [], [], []),
  (76, .getfield 43, 3, 2, [], [9, 7], []),
  (79, .aload_n 0, 1, 0, [], [], []),
  (80, .getfield 23, 3, 2, [], [9, 3], []),
  (83, .invokevirtual 303, 3, 4, [1, 1], [1], []),
  (86, .istore_n 2, 1, 2, [], [], []),
  (87, .aload_n 0, 1, 0, [], [], []),
  (88, .getfield 65, 3, 2, [], [9, 14], []),
  (91, .iconst 0, 1, 0, [], [], []),
  (92, .aload_n 0, 1, 0, [], [], []),
  (93, .getfield 43, 3, 2, [], [9, 7], []),
  (96, .getfield 307, 3, 0, [], [1, 5], []),
  (99, .iastore, 1, 0, [], [], []),
  (100, .aload_n 0, 1, 0, [], [], []),
  (101, .getfield 65, 3, 2, [], [9, 14], []),
  (104, .iconst 1, 1, 0, [], [], []),
  (105, .iload_n 2, 1, 2, [], [], []),
  (106, .iastore, 1, 0, [], [], []),
  (107, .aload_n 0, 1, 0, [], [], []),
  (108, .getfield 65, 3, 2, [], [9, 14], []),
  (111, .iconst 2, 1, 0, [], [], []),
  (112, .aload_n 0, 1, 0, [], [], []),
  (113, .getfield 23, 3, 2, [], [9, 3], []),
  (116, .invokevirtual 310, 3, 79, [1, 0], [8], []),
  (119, .iastore, 1, 0, [], [], []),
  (120, .aload_n 0, 1, 0, [], [], []),
  (121, .getfield 65, 3, 2, [], [9, 14], []),
  (124, .iconst 3, 1, 0, [], [], []),
  (125, .aload_n 0, 1, 0, [], [], []),
  (126, .getfield 23, 3, 2, [], [9, 3], []),
  (129, .getfield 256, 3, 2, [], [8, 2], []),
  (132, .getfield 260, 3, 0, [], [6, 1], []),
  (135, .iastore, 1, 0, [], [], []),
  (136, .iload_n 1, 1, 1, [], [], []),
  (137, .ifCond .ne 10, 3, 147, [], [], []),
  (140, .aload_n 0, 1, 0, [], [], []),
  (141, .invokevirtual 91, 3, 101, [0, 0], [9], []),
  (144, .goto 18, 3, 162, [], [], []),
  (147, .iload_n 2, 1, 2, [], [], []),
  (148, .ifCond .le 14, 3, 162, [], [], []),
  (151, .aload_n 0, 1, 0, [], [], []),
  (152, .getfield 50, 3, 2, [], [9, 8], []),
  (155, .aload_n 0, 1, 0, [], [], []),
  (156, .getfield 27, 3, 2, [], [9, 4], []),
  (159, .invokevirtual 226, 3, 12, [0, 1], [3], []),
  (162, .aload_n 0, 1, 0, [], [], []),
  (163, .getfield 43, 3, 2, [], [9, 7], []),
  (166, .getfield 307, 3, 0, [], [1, 5], []),
  (169, .ifCond .ne 7, 3, 176, [], [], []),
  (172, .iconst (-1), 1, 0, [], [], []),
  (173, .goto 4, 3, 177, [], [], []),
  (176, .iload_n 2, 1, 2, [], [], []),
  (177, .ireturn, 1, 0, [], [], [])], [(13, [true, true, false])])
def mX11_told : sM := (2, 1, [
  (0, .iload_n 1, 1, 1, [], [], []),
  (1, .ifCond .lt 12, 3, 13, [], [], []),
  (4, .iload_n 1, 1, 1, [], [], []),
  (5, .aload_n 0, 1, 0, [], [], []),
  (6, .getfield 65, 3, 2, [], [9, 14], []),
  (9, .arraylength, 1, 0, [], [], []),
  (10, .if_icmp .lt 7, 3, 17, [], [], []),
  (13, .iconst (-1), 1, 0, [], [], []),
  (14, .goto 9, 3, 23, [], [], []),
  (17, .aload_n 0, 1, 0, [], [], []),
  (18, .getfield 65, 3, 2, [], [9, 14], []),
  (21, .iload_n 1, 1, 1, [], [], []),
  (22, .iaload, 1, 0, [], [], []),
  (23, .ireturn, 1, 0, [], [], [])], [])
def mX11_sentence : sM := (2, 1, [
  (0, .aload_n 0, 1, 0, [], [], []),
  (1, .getfield 16, 3, 2, [], [9, 2], []),
  (4, .aload_n 0, 1, 0, [], [], []),
  (5, .getfield 9, 3, 2, [], [9, 0], []),
  (8, .aload_n 0, 1, 0, [], [], []),
  (9, .getfield 68, 3, 0, [], [9, 1], []),
  (12, .sipush 200, 3, 0, [], [], []),
  (15, .invokevirtual 76, 3, 15, [0, 3], [4], []),
  (18, .aload_n 0, 1, 0, [], [], []),
  (19, .getfield 37, 3, 2, [], [9, 6], []),
  (22, .aload_n 0, 1, 0, [], [], []),
  (23, .getfield 16, 3, 2, [], [9, 2], []),
  (26, .aload_n 0, 1, 0, [], [], []),
  (27, .getfield 23, 3, 2, [], [9, 3], []),
  (30, .invokevirtual 313, 3, 67, [0, 2], [7], []),
  (33, .aload_n 0, 1, 0, [], [], []),
  (34, .invokevirtual 84, 3, 100, [4, 0], [9], []),
  (37, .ifCond .eq 13, 3, 50, [], [], []),
  (40, .iconst (-1), 1, 0, [], [], []),
  (41, .aload_n 0, 1, 0, [], [], []),
  (42, .getfield 16, 3, 2, [], [9, 2], []),
  (45, .getfield 88, 3, 0, [], [4, 11], []),
  (48, .isub, 1, 0, [], [], []),
  (49, .ireturn, 1, 0, [], [], []),
  (50, .aload_n 0, 1, 0, [], [], []),
  (51, .getfield 33, 3, 2, [], [9, 5], []),
  (54, .astore_n 1, 1, 1, [], [], []),
  (55, .aload_n 0, 1, 0, [], [], []),
  (56, .aload_n 0, 1, 0, [], [], []),
  (57, .getfield 37, 3, 2, [], [9, 6], []),
  (60, .putfield 33, 3, 2, [], [9, 5], []),
  (63, .aload_n 0, 1, 0, [], [], []),
  (64, .aload_n 1, 1, 1, [], [], []),
  (65, .putfield 37, 3, 2, [], [9, 6], []),
  (68, .aload_n 0, 1, 0, [], [], []),
  (69, .getfield 33, 3, 2, [], [9, 5], []),
  (72, .getfield 316, 3, 0, [], [7, 5], []),
  (75, .ireturn, 1, 0, [], [], [])], [])
def mX11_said : sM := (4, 1, [
  (0, .aload_n 0, 1, 0, [], [], []),
  (1, .getfield 33, 3, 2, [], [9, 5], []),
  (4, .getfield 316, 3, 0, [], [7, 5], []),
  (7, .ifCond .eq 8, 3, 15, [], [], []),
  (10, .iload_n 1, 1, 1, [], [], []),
  (11, .iconst (-1), 1, 0, [], [], []),
  (12, .if_icmp .ge 5, 3, 17, [], [], []),
  (15, .iconst (-1), 1, 0, [], [], []),
  (16, .ireturn, 1, 0, [], [], []),
  (17, .iconst 0, 1, 0, [], [], []),
  (18, .istore_n 2, 1, 2, [], [], []),
  (19, .iconst 0, 1, 0, [], [], []),
  (20, .istore_n 3, 1, 3, [], [], []),
  (21, .iload_n 3, 1, 3, [], [], []),
  (22, .aload_n 0, 1, 0, [], [], []),
  (23, .getfield 23, 3, 2, [], [9, 3], []),
  (26, .getfield 319, 3, 0, [], [8, 3], []),
  (29, .if_icmp .ge 34, 3, 63, [], [], []),
  (32, .aload_n 0, 1, 0, [], [], []),
  (33, .getfield 33, 3, 2, [], [9, 5], []),
  (36, .aload_n 0, 1, 0, [], [], []),
  (37, .getfield 23, 3, 2, [], [9, 3], []),
  (40, .iload_n 3, 1, 3, [], [], []),
  (41, .invokevirtual 322, 3, 72, [4, 2], [7], []),
  (44, .ifCond .eq 13, 3, 57, [], [], []),
  (47, .iload_n 2, 1, 2, [], [], []),
  (48, .iload_n 1, 1, 1, [], [], []),
  (49, .if_icmp .ne 5, 3, 54, [], [], []),
  (52, .iload_n 3, 1, 3, [], [], []),
  (53, .ireturn, 1, 0, [], [], []),
  (54, .iinc 2 1, 3, 2, [], [], []),
  (57, .iinc 3 1, 3, 3, [], [], []),
  (60, .goto (-39), 3, 21, [], [], []),
  (63, .iload_n 1, 1, 1, [], [], []),
  (64, .iconst (-1), 1, 0, [], [], []),
  (65, .if_icmp .ne 7, 3, 72, [], [], []),
  (68, .iload_n 2, 1, 2, [], [], []),
  (69, .goto 4, 3, 73, [], [], []),
  (72, .iconst (-1), 1, 0, [], [], []),
  (73, .ireturn, 1, 0, [], [], [])], [(21, [true, true, true, true])])
def mX11_image : sM := (2, 4, [
  (0, .iload_n 1, 1, 1, [], [], []),
  (1, .ifCond .lt 8, 3, 9, [], [], []),
  (4, .iload_n 1, 1, 1, [], [], []),
  (5, .iconst 2, 1, 0, [], [], []),
  (6, .if_icmp .lt 5, 3, 11, [], [], []),
  (9, .iconst 0, 1, 0, [], [], []),
  (10, .ireturn, 1, 0, [], [], []),
  (11, .aload_n 0, 1, 0, [], [], []),
  (12, .getfield 54, 3, 2, [], [9, 9], []),
  (15, .iload_n 1, 1, 1, [], [], []),
  (16, .aaload, 1, 0, [], [], []),
  (17, .ifnonnull 16, 3, 33, [], [], []),
  (20, .aload_n 0, 1, 0, [], [], []),
  (21, .getfield 54, 3, 2, [], [9, 9], []),
  (24, .iload_n 1, 1, 1, [], [], []),
  (25, .new 20, 3, 6, [], [8], []),
  (28, .dup, 1, 0, [], [], []),
  (29, .invokespecial 22, 3, 75, [0], [8], []),
  (32, .aastore, 1, 0, [], [], []),
  (33, .aload_n 0, 1, 0, [], [], []),
  (34, .getfield 58, 3, 2, [], [9, 10], []),
  (37, .iload_n 1, 1, 1, [], [], []),
  (38, .aaload, 1, 0, [], [], []),
  (39, .ifnonnull 16, 3, 55, [], [], []),
  (42, .aload_n 0, 1, 0, [], [], []),
  (43, .getfield 58, 3, 2, [], [9, 10], []),
  (46, .iload_n 1, 1, 1, [], [], []),
  (47, .new 30, 3, 6, [], [7], []),
  (50, .dup, 1, 0, [], [], []),
  (51, .invokespecial 32, 3, 64, [0], [7], []),
  (54, .aastore, 1, 0, [], [], []),
  (55, .aload_n 0, 1, 0, [], [], []),
  (56, .getfield 54, 3, 2, [], [9, 9], []),
  (59, .iload_n 1, 1, 1, [], [], []),
  (60, .aaload, 1, 0, [], [], []),
  (61, .aload_n 0, 1, 0, [], [], []),
  (62, .getfield 23, 3, 2, [], [9, 3], []),
  (65, .invokevirtual 290, 3, 76, [0, 1], [8], []),
  (68, .aload_n 0, 1, 0, [], [], []),
  (69, .getfield 58, 3, 2, [], [9, 10], []),
  (72, .iload_n 1, 1, 1, [], [], []),
  (73, .aaload, 1, 0, [], [], []),
  (74, .aload_n 0, 1, 0, [], [], []),
  (75, .getfield 33, 3, 2, [], [9, 5], []),
  (78, .invokevirtual 326, 3, 66, [0, 1], [7], []),
  (81, .iconst 1, 1, 0, [], [], []),
  (82, .ireturn, 1, 0, [], [], [])], [(55, [true, true])])
def mX11_restore : sM := (2, 4, [
  (0, .iload_n 1, 1, 1, [], [], []),
  (1, .ifCond .lt 26, 3, 27, [], [], []),
  (4, .iload_n 1, 1, 1, [], [], []),
  (5, .iconst 2, 1, 0, [], [], []),
  (6, .if_icmp .ge 21, 3, 27, [], [], []),
  (9, .aload_n 0, 1, 0, [], [], []),
  (10, .getfield 54, 3, 2, [], [9, 9], []),
  (13, .iload_n 1, 1, 1, [], [], []),
  (14, .aaload, 1, 0, [], [], []),
  (15, .ifnull 12, 3, 27, [], [], []),
  (18, .aload_n 0, 1, 0, [], [], []),
  (19, .getfield 58, 3, 2, [], [9, 10], []),
  (22, .iload_n 1, 1, 1, [], [], []),
  (23, .aaload, 1, 0, [], [], []),
  (24, .ifnonnull 5, 3, 29, [], [], []),
  (27, .iconst 0, 1, 0, [], [], []),
  (28, .ireturn, 1, 0, [], [], []),
  (29, .aload_n 0, 1, 0, [], [], []),
  (30, .getfield 23, 3, 2, [], [9, 3], []),
  (33, .aload_n 0, 1, 0, [], [], []),
  (34, .getfield 54, 3, 2, [], [9, 9], []),
  (37, .iload_n 1, 1, 1, [], [], []),
  (38, .aaload, 1, 0, [], [], []),
  (39, .invokevirtual 290, 3, 76, [0, 1], [8], []),
  (42, .aload_n 0, 1, 0, [], [], []),
  (43, .getfield 33, 3, 2, [], [9, 5], []),
  (46, .aload_n 0, 1, 0, [], [], []),
  (47, .getfield 58, 3, 2, [], [9, 10], []),
  (50, .iload_n 1, 1, 1, [], [], []),
  (51, .aaload, 1, 0, [], [], []),
  (52, .invokevirtual 326, 3, 66, [0, 1], [7], []),
  (55, .aload_n 0, 1, 0, [], [], []),
  (56, .getfield 50, 3, 2, [], [9, 8], []),
  (59, .invokevirtual 97, 3, 11, [0, 0], [3], []),
  (62, .iconst 1, 1, 0, [], [], []),
  (63, .ireturn, 1, 0, [], [], [])], [])
def mX11_total : sM := (2, 1, [
  (0, .iload_n 1, 1, 1, [], [], []),
  (1, .tableswitch 60 0 3 #[31, 39, 47, 55], 31, 61, [], [], [(0, 32), (1, 40), (2, 48), (3, 56)]),
  (32, .aload_n 0, 1, 0, [], [], []),
  (33, .getfield 23, 3, 2, [], [9, 3], []),
  (36, .getfield 319, 3, 0, [], [8, 3], []),
  (39, .ireturn, 1, 0, [], [], []),
  (40, .aload_n 0, 1, 0, [], [], []),
  (41, .getfield 23, 3, 2, [], [9, 3], []),
  (44, .getfield 243, 3, 0, [], [8, 4], []),
  (47, .ireturn, 1, 0, [], [], []),
  (48, .aload_n 0, 1, 0, [], [], []),
  (49, .getfield 23, 3, 2, [], [9, 3], []),
  (52, .invokevirtual 310, 3, 79, [1, 0], [8], []),
  (55, .ireturn, 1, 0, [], [], []),
  (56, .aload_n 0, 1, 0, [], [], []),
  (57, .getfield 68, 3, 0, [], [9, 1], []),
  (60, .ireturn, 1, 0, [], [], []),
  (61, .iconst (-1), 1, 0, [], [], []),
  (62, .ireturn, 1, 0, [], [], [])], [])
def mX12_thrown : sM := (1, 1, [
  (0, .aload_n 0, 1, 0, [], [], []),
  (1, .getfield 1, 3, 0, [], [10, 0], []),
  (4, .ireturn, 1, 0, [], [], [])], [])
def mX12_refuse : sM := (1, 1, [
  (0, .aload_n 0, 1, 0, [], [], []),
  (1, .iconst 1, 1, 0, [], [], []),
  (2, .putfield 1, 3, 0, [], [10, 0], []),
  (5, .iconst 0, 1, 0, [], [], []),
  (6, .ireturn, 1, 0, [], [], [])], [])
def mX12_come : sM := (3, 0, [
  (0, .bipush 24, 2, 0, [], [], []),
  (2, .istore_n 2, 1, 2, [], [], []),
  (3, .iload_n 2, 1, 2, [], [], []),
  (4, .ifCond .lt 35, 3, 39, [], [], []),
  (7, .aload_n 0, 1, 0, [], [], []),
  (8, .getfield 7, 3, 2, [], [10, 1], []),
  (11, .aload_n 0, 1, 0, [], [], []),
  (12, .getfield 11, 3, 0, [], [10, 2], []),
  (15, .iload_n 1, 1, 1, [], [], []),
  (16, .iload_n 2, 1, 2, [], [], []),
  (17, .iushr, 1, 0, [], [], []),
  (18, .sipush 255, 3, 0, [], [], []),
  (21, .iand, 1, 0, [], [], []),
  (22, .iastore, 1, 0, [], [], []),
  (23, .aload_n 0, 1, 0, [], [], []),
  (24, .dup, 1, 0, [], [], []),
  (25, .getfield 11, 3, 0, [], [10, 2], []),
  (28, .iconst 1, 1, 0, [], [], []),
  (29, .iadd, 1, 0, [], [], []),
  (30, .putfield 11, 3, 0, [], [10, 2], []),
  (33, .iinc 2 (-8), 3, 2, [], [], []),
  (36, .goto (-33), 3, 3, [], [], []),
  (39, .return_, 1, 0, [], [], [])], [(3, [true, true, true])])
def mX12_feed : sM := (6, 1, [
  (0, .aload_n 0, 1, 0, [], [], []),
  (1, .iconst 0, 1, 0, [], [], []),
  (2, .putfield 1, 3, 0, [], [10, 0], []),
  (5, .aload_n 0, 1, 0, [], [], []),
  (6, .getfield 11, 3, 0, [], [10, 2], []),
  (9, .bipush 20, 2, 0, [], [], []),
  (11, .iadd, 1, 0, [], [], []),
  (12, .sipush 940, 3, 0, [], [], []),
  (15, .if_icmp .le 5, 3, 20, [], [], []),
  (18, .iconst (-1), 1, 0, [], [], []),
  (19, .ireturn, 1, 0, [], [], []),
  (20, .aload_n 0, 1, 0, [], [], []),
  (21, .iload_n 1, 1, 1, [], [], []),
  (22, .invokevirtual 14, 3, 151, [0, 1], [10], []),
  (25, .aload_n 0, 1, 0, [], [], []),
  (26, .iload_n 2, 1, 2, [], [], []),
  (27, .invokevirtual 14, 3, 151, [0, 1], [10], []),
  (30, .aload_n 0, 1, 0, [], [], []),
  (31, .iload_n 3, 1, 3, [], [], []),
  (32, .invokevirtual 14, 3, 151, [0, 1], [10], []),
  (35, .aload_n 0, 1, 0, [], [], []),
  (36, .iload 4, 2, 4, [], [], []),
  (38, .invokevirtual 14, 3, 151, [0, 1], [10], []),
  (41, .aload_n 0, 1, 0, [], [], []),
  (42, .iload 5, 2, 5, [], [], []),
  (44, .invokevirtual 14, 3, 151, [0, 1], [10], []),
  (47, .aload_n 0, 1, 0, [], [], []),
  (48, .getfield 11, 3, 0, [], [10, 2], []),
  (51, .ireturn, 1, 0, [], [], [])], [])
def mX12_end : sM := (2, 4, [
  (0, .aload_n 0, 1, 0, [], [], []),
  (1, .iconst 0, 1, 0, [], [], []),
  (2, .putfield 1, 3, 0, [], [10, 0], []),
  (5, .iload_n 1, 1, 1, [], [], []),
  (6, .ifCond .lt 11, 3, 17, [], [], []),
  (9, .iload_n 1, 1, 1, [], [], []),
  (10, .aload_n 0, 1, 0, [], [], []),
  (11, .getfield 11, 3, 0, [], [10, 2], []),
  (14, .if_icmp .le 5, 3, 19, [], [], []),
  (17, .iconst 0, 1, 0, [], [], []),
  (18, .ireturn, 1, 0, [], [], []),
  (19, .aload_n 0, 1, 0, [], [], []),
  (20, .iload_n 1, 1, 1, [], [], []),
  (21, .putfield 11, 3, 0, [], [10, 2], []),
  (24, .iconst 1, 1, 0, [], [], []),
  (25, .ireturn, 1, 0, [], [], [])], [])
def mX12_take : sM := (2, 1, [
  (0, .aload_n 0, 1, 0, [], [], []),
  (1, .getfield 11, 3, 0, [], [10, 2], []),
  (4, .istore_n 1, 1, 1, [], [], []),
  (5, .aload_n 0, 1, 0, [], [], []),
  (6, .iconst 0, 1, 0, [], [], []),
  (7, .putfield 11, 3, 0, [], [10, 2], []),
  (10, .iload_n 1, 1, 1, [], [], []),
  (11, .ireturn, 1, 0, [], [], [])], [])
def mX12_isIn : sM := (3, 4, [
  (0, .iload_n 0, 1, 0, [], [], []),
  (1, .iload_n 1, 1, 1, [], [], []),
  (2, .if_icmp .lt 12, 3, 14, [], [], []),
  (5, .iload_n 0, 1, 0, [], [], []),
  (6, .iload_n 2, 1, 2, [], [], []),
  (7, .if_icmp .gt 7, 3, 14, [], [], []),
  (10, .iconst 1, 1, 0, [], [], []),
  (11, .goto 4, 3, 15, [], [], []),
  (14, .iconst 0, 1, 0, [], [], []),
  (15, .ireturn, 1, 0, [], [], [])], [])
def mX12_tapeAt : sM := (2, 1, [
  (0, .iload_n 1, 1, 1, [], [], []),
  (1, .aload_n 0, 1, 0, [], [], []),
  (2, .getfield 18, 3, 0, [], [10, 3], []),
  (5, .if_icmp .ge 12, 3, 17, [], [], []),
  (8, .aload_n 0, 1, 0, [], [], []),
  (9, .getfield 7, 3, 2, [], [10, 1], []),
  (12, .iload_n 1, 1, 1, [], [], []),
  (13, .iaload, 1, 0, [], [], []),
  (14, .goto 4, 3, 18, [], [], []),
  (17, .iconst 0, 1, 0, [], [], []),
  (18, .ireturn, 1, 0, [], [], [])], [])
def mX12_isDigit : sM := (1, 4, [
  (0, .iload_n 0, 1, 0, [], [], []),
  (1, .bipush 48, 2, 0, [], [], []),
  (3, .if_icmp .lt 13, 3, 16, [], [], []),
  (6, .iload_n 0, 1, 0, [], [], []),
  (7, .bipush 57, 2, 0, [], [], []),
  (9, .if_icmp .gt 7, 3, 16, [], [], []),
  (12, .iconst 1, 1, 0, [], [], []),
  (13, .goto 4, 3, 17, [], [], []),
  (16, .iconst 0, 1, 0, [], [], []),
  (17, .ireturn, 1, 0, [], [], [])], [])
def mX12_isLetter : sM := (1, 4, [
  (0, .iload_n 0, 1, 0, [], [], []),
  (1, .bipush 97, 2, 0, [], [], []),
  (3, .if_icmp .lt 13, 3, 16, [], [], []),
  (6, .iload_n 0, 1, 0, [], [], []),
  (7, .bipush 122, 2, 0, [], [], []),
  (9, .if_icmp .gt 7, 3, 16, [], [], []),
  (12, .iconst 1, 1, 0, [], [], []),
  (13, .goto 4, 3, 17, [], [], []),
  (16, .iconst 0, 1, 0, [], [], []),
  (17, .ireturn, 1, 0, [], [], [])], [])
def mX12_go : sM := (5, 0, [
  (0, .aload_n 0, 1, 0, [], [], []),
  (1, .getfield 21, 3, 0, [], [10, 5], []),
  (4, .aload_n 0, 1, 0, [], [], []),
  (5, .getfield 18, 3, 0, [], [10, 3], []),
  (8, .if_icmp .ge 44, 3, 52, [], [], []),
  (11, .aload_n 0, 1, 0, [], [], []),
  (12, .getfield 7, 3, 2, [], [10, 1], []),
  (15, .aload_n 0, 1, 0, [], [], []),
  (16, .getfield 21, 3, 0, [], [10, 5], []),
  (19, .iaload, 1, 0, [], [], []),
  (20, .bipush 32, 2, 0, [], [], []),
  (22, .if_icmp .eq 17, 3, 39, [], [], []),
  (25, .aload_n 0, 1, 0, [], [], []),
  (26, .getfield 7, 3, 2, [], [10, 1], []),
  (29, .aload_n 0, 1, 0, [], [], []),
  (30, .getfield 21, 3, 0, [], [10, 5], []),
  (33, .iaload, 1, 0, [], [], []),
  (34, .bipush 10, 2, 0, [], [], []),
  (36, .if_icmp .ne 16, 3, 52, [], [], []),
  (39, .aload_n 0, 1, 0, [], [], []),
  (40, .dup, 1, 0, [], [], []),
  (41, .getfield 21, 3, 0, [], [10, 5], []),
  (44, .iconst 1, 1, 0, [], [], []),
  (45, .iadd, 1, 0, [], [], []),
  (46, .putfield 21, 3, 0, [], [10, 5], []),
  (49, .goto (-49), 3, 0, [], [], []),
  (52, .aload_n 0, 1, 0, [], [], []),
  (53, .aload_n 0, 1, 0, [], [], []),
  (54, .getfield 21, 3, 0, [], [10, 5], []),
  (57, .putfield 24, 3, 0, [], [10, 6], []),
  (60, .aload_n 0, 1, 0, [], [], []),
  (61, .getfield 18, 3, 0, [], [10, 3], []),
  (64, .aload_n 0, 1, 0, [], [], []),
  (65, .getfield 27, 3, 0, [], [10, 4], []),
  (68, .if_icmp .le 28, 3, 96, [], [], []),
  (71, .aload_n 0, 1, 0, [], [], []),
  (72, .getfield 24, 3, 0, [], [10, 6], []),
  (75, .aload_n 0, 1, 0, [], [], []),
  (76, .getfield 27, 3, 0, [], [10, 4], []),
  (79, .if_icmp .lt 17, 3, 96, [], [], []),
  (82, .aload_n 0, 1, 0, [], [], []),
  (83, .aload_n 0, 1, 0, [], [], []),
  (84, .getfield 27, 3, 0, [], [10, 4], []),
  (87, .putfield 24, 3, 0, [], [10, 6], []),
  (90, .aload_n 0, 1, 0, [], [], []),
  (91, .iconst 1, 1, 0, [], [], []),
  (92, .putfield 30, 3, 0, [], [10, 7], []),
  (95, .return_, 1, 0, [], [], []),
  (96, .aload_n 0, 1, 0, [], [], []),
  (97, .getfield 21, 3, 0, [], [10, 5], []),
  (100, .aload_n 0, 1, 0, [], [], []),
  (101, .getfield 18, 3, 0, [], [10, 3], []),
  (104, .if_icmp .lt 9, 3, 113, [], [], []),
  (107, .aload_n 0, 1, 0, [], [], []),
  (108, .iconst 0, 1, 0, [], [], []),
  (109, .putfield 30, 3, 0, [], [10, 7], []),
  (112, .return_, 1, 0, [], [], []),
  (113, .aload_n 0, 1, 0, [], [], []),
  (114, .getfield 7, 3, 2, [], [10, 1], []),
  (117, .aload_n 0, 1, 0, [], [], []),
  (118, .getfield 21, 3, 0, [], [10, 5], []),
  (121, .iaload, 1, 0, [], [], []),
  (122, .istore_n 1, 1, 1, [], [], []),
  (123, .iload_n 1, 1, 1, [], [], []),
  (124, .invokestatic 33, 3, 158, [4, 1], [], []),
  (127, .ifCond .ne 71, 3, 198, [], [], []),
  (130, .iload_n 1, 1, 1, [], [], []),
  (131, .invokestatic 37, 3, 157, [4, 1], [], []),
  (134, .ifCond .ne 64, 3, 198, [], [], []),
  (137, .aload_n 0, 1, 0, [], [], []),
  (138, .iload_n 1, 1, 1, [], [], []),
  (139, .bipush 59, 2, 0, [], [], []),
  (141, .if_icmp .eq 33, 3, 174, [], [], []),
  (144, .iload_n 1, 1, 1, [], [], []),
  (145, .bipush 60, 2, 0, [], [], []),
  (147, .if_icmp .eq 27, 3, 174, [], [], []),
  (150, .iload_n 1, 1, 1, [], [], []),
  (151, .bipush 61, 2, 0, [], [], []),
  (153, .if_icmp .eq 21, 3, 174, [], [], []),
  (156, .iload_n 1, 1, 1, [], [], []),
  (157, .bipush 62, 2, 0, [], [], []),
  (159, .if_icmp .eq 15, 3, 174, [], [], []),
  (162, .iload_n 1, 1, 1, [], [], []),
  (163, .bipush 40, 2, 0, [], [], []),
  (165, .if_icmp .eq 9, 3, 174, [], [], []),
  (168, .iload_n 1, 1, 1, [], [], []),
  (169, .bipush 41, 2, 0, [], [], []),
  (171, .if_icmp .ne 7, 3, 178, [], [], []),
  (174, .iconst 4, 1, 0, [], [], []),
  (175, .goto 4, 3, 179, [], [], []),
  (178, .iconst 1, 1, 0, [], [], []),
  (179, .putfield 30, 3, 0, [], [10, 7], []),
  (182, .aload_n 0, 1, 0, [], [], []),
  (183, .iload_n 1, 1, 1, [], [], []),
  (184, .putfield 40, 3, 0, [], [10, 9], []),
  (187, .aload_n 0, 1, 0, [], [], []),
  (188, .dup, 1, 0, [], [], []),
  (189, .getfield 21, 3, 0, [], [10, 5], []),
  (192, .iconst 1, 1, 0, [], [], []),
  (193, .iadd, 1, 0, [], [], []),
  (194, .putfield 21, 3, 0, [], [10, 5], []),
  (197, .return_, 1, 0, [], [], []),
  (198, .iload_n 1, 1, 1, [], [], []),
  (199, .invokestatic 33, 3, 158, [4, 1], [], []),
  (202, .istore_n 2, 1, 2, [], [], []),
  (203, .iconst 1, 1, 0, [], [], []),
  (204, .istore_n 3, 1, 3, [], [], []),
  (205, .aload_n 0, 1, 0, [], [], []),
  (206, .lconst 0, 1, 0, [], [0], []),
  (207, .putfield 43, 3, 1, [], [10, 12], []),
  (210, .aload_n 0, 1, 0, [], [], []),
  (211, .iconst 0, 1, 0, [], [], []),
  (212, .putfield 47, 3, 0, [], [10, 8], []),
  (215, .aload_n 0, 1, 0, [], [], []),
  (216, .aload_n 0, 1, 0, [], [], []),
  (217, .getfield 21, 3, 0, [], [10, 5], []),
  (220, .invokevirtual 50, 3, 156, [1, 1], [10], []),
  (223, .invokestatic 33, 3, 158, [4, 1], [], []),
  (226, .ifCond .ne 17, 3, 243, [], [], []),
  (229, .aload_n 0, 1, 0, [], [], []),
  (230, .aload_n 0, 1, 0, [], [], []),
  (231, .getfield 21, 3, 0, [], [10, 5], []),
  (234, .invokevirtual 50, 3, 156, [1, 1], [10], []),
  (237, .invokestatic 37, 3, 157, [4, 1], [], []),
  (240, .ifCond .eq 110, 3, 350, [], [], []),
  (243, .aload_n 0, 1, 0, [], [], []),
  (244, .getfield 7, 3, 2, [], [10, 1], []),
  (247, .aload_n 0, 1, 0, [], [], []),
  (248, .getfield 21, 3, 0, [], [10, 5], []),
  (251, .iaload, 1, 0, [], [], []),
  (252, .istore 4, 2, 4, [], [], []),
  (254, .iload_n 3, 1, 3, [], [], []),
  (255, .ifCond .eq 16, 3, 271, [], [], []),
  (258, .iload 4, 2, 4, [], [], []),
  (260, .invokestatic 33, 3, 158, [4, 1], [], []),
  (263, .iload_n 2, 1, 2, [], [], []),
  (264, .if_icmp .ne 7, 3, 271, [], [], []),
  (267, .iconst 1, 1, 0, [], [], []),
  (268, .goto 4, 3, 272, [], [], []),
  (271, .iconst 0, 1, 0, [], [], []),
  (272, .istore_n 3, 1, 3, [], [], []),
  (273, .aload_n 0, 1, 0, [], [], []),
  (274, .getfield 21, 3, 0, [], [10, 5], []),
  (277, .aload_n 0, 1, 0, [], [], []),
  (278, .getfield 24, 3, 0, [], [10, 6], []),
  (281, .isub, 1, 0, [], [], []),
  (282, .bipush 7, 2, 0, [], [], []),
  (284, .if_icmp .ge 23, 3, 307, [], [], []),
  (287, .aload_n 0, 1, 0, [], [], []),
  (288, .ldc2_w 54, 3, 0, [], [27], []),
  (291, .aload_n 0, 1, 0, [], [], []),
  (292, .getfield 43, 3, 1, [], [10, 12], []),
  (295, .lmul, 1, 0, [], [], []),
  (296, .iload 4, 2, 4, [], [], []),
  (298, .i2l, 1, 0, [], [], []),
  (299, .ladd, 1, 0, [], [], []),
  (300, .ldc2_w 56, 3, 0, [], [96], []),
  (303, .lsub, 1, 0, [], [], []),
  (304, .putfield 43, 3, 1, [], [10, 12], []),
  (307, .aload_n 0, 1, 0, [], [], []),
  (308, .getfield 21, 3, 0, [], [10, 5], []),
  (311, .aload_n 0, 1, 0, [], [], []),
  (312, .getfield 24, 3, 0, [], [10, 6], []),
  (315, .isub, 1, 0, [], [], []),
  (316, .iconst 3, 1, 0, [], [], []),
  (317, .if_icmp .ge 20, 3, 337, [], [], []),
  (320, .aload_n 0, 1, 0, [], [], []),
  (321, .bipush 10, 2, 0, [], [], []),
  (323, .aload_n 0, 1, 0, [], [], []),
  (324, .getfield 47, 3, 0, [], [10, 8], []),
  (327, .imul, 1, 0, [], [], []),
  (328, .iload 4, 2, 4, [], [], []),
  (330, .iadd, 1, 0, [], [], []),
  (331, .bipush 48, 2, 0, [], [], []),
  (333, .isub, 1, 0, [], [], []),
  (334, .putfield 47, 3, 0, [], [10, 8], []),
  (337, .aload_n 0, 1, 0, [], [], []),
  (338, .dup, 1, 0, [], [], []),
  (339, .getfield 21, 3, 0, [], [10, 5], []),
  (342, .iconst 1, 1, 0, [], [], []),
  (343, .iadd, 1, 0, [], [], []),
  (344, .putfield 21, 3, 0, [], [10, 5], []),
  (347, .goto (-132), 3, 215, [], [], []),
  (350, .aload_n 0, 1, 0, [], [], []),
  (351, .iload_n 3, 1, 3, [], [], []),
  (352, .ifCond .eq 25, 3, 377, [], [], []),
  (355, .aload_n 0, 1, 0, [], [], []),
  (356, .getfield 21, 3, 0, [], [10, 5], []),
  (359, .aload_n 0, 1, 0, [], [], []),
  (360, .getfield 24, 3, 0, [], [10, 6], []),
  (363, .isub, 1, 0, [], [], []),
  (364, .iload_n 2, 1, 2, [], [], []),
  (365, .ifCond .eq 8, 3, 373, [], [], []),
  (368, .bipush 7, 2, 0, [], [], []),
  (370, .goto 4, 3, 374, [], [], []),
  (373, .iconst 3, 1, 0, [], [], []),
  (374, .if_icmp .le 7, 3, 381, [], [], []),
  (377, .iconst 1, 1, 0, [], [], []),
  (378, .goto 12, 3, 390, [], [], []),
  (381, .iload_n 2, 1, 2, [], [], []),
  (382, .ifCond .eq 7, 3, 389, [], [], []),
  (385, .iconst 2, 1, 0, [], [], []),
  (386, .goto 4, 3, 390, [], [], []),
  (389, .iconst 3, 1, 0, [], [], []),
  (390, .putfield 30, 3, 0, [], [10, 7], []),
  (393, .return_, 1, 0, [], [], [])], [(0, [true, false, false, false, false]), (96, [true, false, false, false, false]), (215, [true, false, true, true, false]), (272, [true, false, true, false, true])])
def mX12_spelt : sM := (9, 2, [
  (0, .ldc2_w 54, 3, 0, [], [27], []),
  (3, .iload_n 0, 1, 0, [], [], []),
  (4, .i2l, 1, 0, [], [], []),
  (5, .ldc2_w 56, 3, 0, [], [96], []),
  (8, .lsub, 1, 0, [], [], []),
  (9, .lmul, 1, 0, [], [], []),
  (10, .iload_n 1, 1, 1, [], [], []),
  (11, .i2l, 1, 0, [], [], []),
  (12, .ladd, 1, 0, [], [], []),
  (13, .ldc2_w 56, 3, 0, [], [96], []),
  (16, .lsub, 1, 0, [], [], []),
  (17, .lstore 7, 2, 7, [], [], []),
  (19, .iload_n 2, 1, 2, [], [], []),
  (20, .ifCond .le 18, 3, 38, [], [], []),
  (23, .ldc2_w 54, 3, 0, [], [27], []),
  (26, .lload 7, 2, 7, [], [], []),
  (28, .lmul, 1, 0, [], [], []),
  (29, .iload_n 2, 1, 2, [], [], []),
  (30, .i2l, 1, 0, [], [], []),
  (31, .ladd, 1, 0, [], [], []),
  (32, .ldc2_w 56, 3, 0, [], [96], []),
  (35, .lsub, 1, 0, [], [], []),
  (36, .lstore 7, 2, 7, [], [], []),
  (38, .iload_n 3, 1, 3, [], [], []),
  (39, .ifCond .le 18, 3, 57, [], [], []),
  (42, .ldc2_w 54, 3, 0, [], [27], []),
  (45, .lload 7, 2, 7, [], [], []),
  (47, .lmul, 1, 0, [], [], []),
  (48, .iload_n 3, 1, 3, [], [], []),
  (49, .i2l, 1, 0, [], [], []),
  (50, .ladd, 1, 0, [], [], []),
  (51, .ldc2_w 56, 3, 0, [], [96], []),
  (54, .lsub, 1, 0, [], [], []),
  (55, .lstore 7, 2, 7, [], [], []),
  (57, .iload 4, 2, 4, [], [], []),
  (59, .ifCond .le 19, 3, 78, [], [], []),
  (62, .ldc2_w 54, 3, 0, [], [27], []),
  (65, .lload 7, 2, 7, [], [], []),
  (67, .lmul, 1, 0, [], [], []),
  (68, .iload 4, 2, 4, [], [], []),
  (70, .i2l, 1, 0, [], [], []),
  (71, .ladd, 1, 0, [], [], []),
  (72, .ldc2_w 56, 3, 0, [], [96], []),
  (75, .lsub, 1, 0, [], [], []),
  (76, .lstore 7, 2, 7, [], [], []),
  (78, .iload 5, 2, 5, [], [], []),
  (80, .ifCond .le 19, 3, 99, [], [], []),
  (83, .ldc2_w 54, 3, 0, [], [27], []),
  (86, .lload 7, 2, 7, [], [], []),
  (88, .lmul, 1, 0, [], [], []),
  (89, .iload 5, 2, 5, [], [], []),
  (91, .i2l, 1, 0, [], [], []),
  (92, .ladd, 1, 0, [], [], []),
  (93, .ldc2_w 56, 3, 0, [], [96], []),
  (96, .lsub, 1, 0, [], [], []),
  (97, .lstore 7, 2, 7, [], [], []),
  (99, .iload 6, 2, 6, [], [], []),
  (101, .ifCond .le 19, 3, 120, [], [], []),
  (104, .ldc2_w 54, 3, 0, [], [27], []),
  (107, .lload 7, 2, 7, [], [], []),
  (109, .lmul, 1, 0, [], [], []),
  (110, .iload 6, 2, 6, [], [], []),
  (112, .i2l, 1, 0, [], [], []),
  (113, .ladd, 1, 0, [], [], []),
  (114, .ldc2_w 56, 3, 0, [], [96], []),
  (117, .lsub, 1, 0, [], [], []),
  (118, .lstore 7, 2, 7, [], [], []),
  (120, .lload 7, 2, 7, [], [], []),
  (122, .lreturn, 1, 0, [], [], [])], [(78, [false, false, false, false, false, true, true, true, false])])
def mX12_wordOf : sM := (1, 2, [
  (0, .iload_n 0, 1, 0, [], [], []),
  (1, .tableswitch 435 0 21 #[103, 118, 132, 150, 164, 178, 192, 207, 222, 238, 253, 269, 282, 296, 310, 326, 341, 356, 373, 388, 403, 418], 103, 436, [], [], [(0, 104), (1, 119), (2, 133), (3, 151), (4, 165), (5, 179), (6, 193), (7, 208), (8, 223), (9, 239), (10, 254), (11, 270), (12, 283), (13, 297), (14, 311), (15, 327), (16, 342), (17, 357), (18, 374), (19, 389), (20, 404), (21, 419)]),
  (104, .bipush 108, 2, 0, [], [], []),
  (106, .bipush 101, 2, 0, [], [], []),
  (108, .bipush 97, 2, 0, [], [], []),
  (110, .bipush 102, 2, 0, [], [], []),
  (112, .iconst 0, 1, 0, [], [], []),
  (113, .iconst 0, 1, 0, [], [], []),
  (114, .iconst 0, 1, 0, [], [], []),
  (115, .invokestatic 58, 3, 160, [2, 7], [], []),
  (118, .lreturn, 1, 0, [], [], []),
  (119, .bipush 114, 2, 0, [], [], []),
  (121, .bipush 111, 2, 0, [], [], []),
  (123, .bipush 119, 2, 0, [], [], []),
  (125, .iconst 0, 1, 0, [], [], []),
  (126, .iconst 0, 1, 0, [], [], []),
  (127, .iconst 0, 1, 0, [], [], []),
  (128, .iconst 0, 1, 0, [], [], []),
  (129, .invokestatic 58, 3, 160, [2, 7], [], []),
  (132, .lreturn, 1, 0, [], [], []),
  (133, .bipush 108, 2, 0, [], [], []),
  (135, .bipush 101, 2, 0, [], [], []),
  (137, .bipush 116, 2, 0, [], [], []),
  (139, .bipush 116, 2, 0, [], [], []),
  (141, .bipush 101, 2, 0, [], [], []),
  (143, .bipush 114, 2, 0, [], [], []),
  (145, .bipush 115, 2, 0, [], [], []),
  (147, .invokestatic 58, 3, 160, [2, 7], [], []),
  (150, .lreturn, 1, 0, [], [], []),
  (151, .bipush 112, 2, 0, [], [], []),
  (153, .bipush 117, 2, 0, [], [], []),
  (155, .bipush 116, 2, 0, [], [], []),
  (157, .iconst 0, 1, 0, [], [], []),
  (158, .iconst 0, 1, 0, [], [], []),
  (159, .iconst 0, 1, 0, [], [], []),
  (160, .iconst 0, 1, 0, [], [], []),
  (161, .invokestatic 58, 3, 160, [2, 7], [], []),
  (164, .lreturn, 1, 0, [], [], []),
  (165, .bipush 115, 2, 0, [], [], []),
  (167, .bipush 101, 2, 0, [], [], []),
  (169, .bipush 116, 2, 0, [], [], []),
  (171, .iconst 0, 1, 0, [], [], []),
  (172, .iconst 0, 1, 0, [], [], []),
  (173, .iconst 0, 1, 0, [], [], []),
  (174, .iconst 0, 1, 0, [], [], []),
  (175, .invokestatic 58, 3, 160, [2, 7], [], []),
  (178, .lreturn, 1, 0, [], [], []),
  (179, .bipush 99, 2, 0, [], [], []),
  (181, .bipush 117, 2, 0, [], [], []),
  (183, .bipush 116, 2, 0, [], [], []),
  (185, .iconst 0, 1, 0, [], [], []),
  (186, .iconst 0, 1, 0, [], [], []),
  (187, .iconst 0, 1, 0, [], [], []),
  (188, .iconst 0, 1, 0, [], [], []),
  (189, .invokestatic 58, 3, 160, [2, 7], [], []),
  (192, .lreturn, 1, 0, [], [], []),
  (193, .bipush 116, 2, 0, [], [], []),
  (195, .bipush 117, 2, 0, [], [], []),
  (197, .bipush 114, 2, 0, [], [], []),
  (199, .bipush 110, 2, 0, [], [], []),
  (201, .iconst 0, 1, 0, [], [], []),
  (202, .iconst 0, 1, 0, [], [], []),
  (203, .iconst 0, 1, 0, [], [], []),
  (204, .invokestatic 58, 3, 160, [2, 7], [], []),
  (207, .lreturn, 1, 0, [], [], []),
  (208, .bipush 106, 2, 0, [], [], []),
  (210, .bipush 111, 2, 0, [], [], []),
  (212, .bipush 105, 2, 0, [], [], []),
  (214, .bipush 110, 2, 0, [], [], []),
  (216, .iconst 0, 1, 0, [], [], []),
  (217, .iconst 0, 1, 0, [], [], []),
  (218, .iconst 0, 1, 0, [], [], []),
  (219, .invokestatic 58, 3, 160, [2, 7], [], []),
  (222, .lreturn, 1, 0, [], [], []),
  (223, .bipush 115, 2, 0, [], [], []),
  (225, .bipush 112, 2, 0, [], [], []),
  (227, .bipush 108, 2, 0, [], [], []),
  (229, .bipush 105, 2, 0, [], [], []),
  (231, .bipush 116, 2, 0, [], [], []),
  (233, .iconst 0, 1, 0, [], [], []),
  (234, .iconst 0, 1, 0, [], [], []),
  (235, .invokestatic 58, 3, 160, [2, 7], [], []),
  (238, .lreturn, 1, 0, [], [], []),
  (239, .bipush 116, 2, 0, [], [], []),
  (241, .bipush 121, 2, 0, [], [], []),
  (243, .bipush 112, 2, 0, [], [], []),
  (245, .bipush 101, 2, 0, [], [], []),
  (247, .iconst 0, 1, 0, [], [], []),
  (248, .iconst 0, 1, 0, [], [], []),
  (249, .iconst 0, 1, 0, [], [], []),
  (250, .invokestatic 58, 3, 160, [2, 7], [], []),
  (253, .lreturn, 1, 0, [], [], []),
  (254, .bipush 101, 2, 0, [], [], []),
  (256, .bipush 114, 2, 0, [], [], []),
  (258, .bipush 97, 2, 0, [], [], []),
  (260, .bipush 115, 2, 0, [], [], []),
  (262, .bipush 101, 2, 0, [], [], []),
  (264, .iconst 0, 1, 0, [], [], []),
  (265, .iconst 0, 1, 0, [], [], []),
  (266, .invokestatic 58, 3, 160, [2, 7], [], []),
  (269, .lreturn, 1, 0, [], [], []),
  (270, .bipush 111, 2, 0, [], [], []),
  (272, .bipush 114, 2, 0, [], [], []),
  (274, .iconst 0, 1, 0, [], [], []),
  (275, .iconst 0, 1, 0, [], [], []),
  (276, .iconst 0, 1, 0, [], [], []),
  (277, .iconst 0, 1, 0, [], [], []),
  (278, .iconst 0, 1, 0, [], [], []),
  (279, .invokestatic 58, 3, 160, [2, 7], [], []),
  (282, .lreturn, 1, 0, [], [], []),
  (283, .bipush 97, 2, 0, [], [], []),
  (285, .bipush 110, 2, 0, [], [], []),
  (287, .bipush 100, 2, 0, [], [], []),
  (289, .iconst 0, 1, 0, [], [], []),
  (290, .iconst 0, 1, 0, [], [], []),
  (291, .iconst 0, 1, 0, [], [], []),
  (292, .iconst 0, 1, 0, [], [], []),
  (293, .invokestatic 58, 3, 160, [2, 7], [], []),
  (296, .lreturn, 1, 0, [], [], []),
  (297, .bipush 110, 2, 0, [], [], []),
  (299, .bipush 111, 2, 0, [], [], []),
  (301, .bipush 116, 2, 0, [], [], []),
  (303, .iconst 0, 1, 0, [], [], []),
  (304, .iconst 0, 1, 0, [], [], []),
  (305, .iconst 0, 1, 0, [], [], []),
  (306, .iconst 0, 1, 0, [], [], []),
  (307, .invokestatic 58, 3, 160, [2, 7], [], []),
  (310, .lreturn, 1, 0, [], [], []),
  (311, .bipush 101, 2, 0, [], [], []),
  (313, .bipush 109, 2, 0, [], [], []),
  (315, .bipush 112, 2, 0, [], [], []),
  (317, .bipush 116, 2, 0, [], [], []),
  (319, .bipush 121, 2, 0, [], [], []),
  (321, .iconst 0, 1, 0, [], [], []),
  (322, .iconst 0, 1, 0, [], [], []),
  (323, .invokestatic 58, 3, 160, [2, 7], [], []),
  (326, .lreturn, 1, 0, [], [], []),
  (327, .bipush 101, 2, 0, [], [], []),
  (329, .bipush 118, 2, 0, [], [], []),
  (331, .bipush 101, 2, 0, [], [], []),
  (333, .bipush 110, 2, 0, [], [], []),
  (335, .iconst 0, 1, 0, [], [], []),
  (336, .iconst 0, 1, 0, [], [], []),
  (337, .iconst 0, 1, 0, [], [], []),
  (338, .invokestatic 58, 3, 160, [2, 7], [], []),
  (341, .lreturn, 1, 0, [], [], []),
  (342, .bipush 108, 2, 0, [], [], []),
  (344, .bipush 105, 2, 0, [], [], []),
  (346, .bipush 107, 2, 0, [], [], []),
  (348, .bipush 101, 2, 0, [], [], []),
  (350, .iconst 0, 1, 0, [], [], []),
  (351, .iconst 0, 1, 0, [], [], []),
  (352, .iconst 0, 1, 0, [], [], []),
  (353, .invokestatic 58, 3, 160, [2, 7], [], []),
  (356, .lreturn, 1, 0, [], [], []),
  (357, .bipush 98, 2, 0, [], [], []),
  (359, .bipush 101, 2, 0, [], [], []),
  (361, .bipush 103, 2, 0, [], [], []),
  (363, .bipush 105, 2, 0, [], [], []),
  (365, .bipush 110, 2, 0, [], [], []),
  (367, .bipush 115, 2, 0, [], [], []),
  (369, .iconst 0, 1, 0, [], [], []),
  (370, .invokestatic 58, 3, 160, [2, 7], [], []),
  (373, .lreturn, 1, 0, [], [], []),
  (374, .bipush 115, 2, 0, [], [], []),
  (376, .bipush 105, 2, 0, [], [], []),
  (378, .bipush 122, 2, 0, [], [], []),
  (380, .bipush 101, 2, 0, [], [], []),
  (382, .iconst 0, 1, 0, [], [], []),
  (383, .iconst 0, 1, 0, [], [], []),
  (384, .iconst 0, 1, 0, [], [], []),
  (385, .invokestatic 58, 3, 160, [2, 7], [], []),
  (388, .lreturn, 1, 0, [], [], []),
  (389, .bipush 111, 2, 0, [], [], []),
  (391, .bipush 110, 2, 0, [], [], []),
  (393, .bipush 101, 2, 0, [], [], []),
  (395, .bipush 115, 2, 0, [], [], []),
  (397, .iconst 0, 1, 0, [], [], []),
  (398, .iconst 0, 1, 0, [], [], []),
  (399, .iconst 0, 1, 0, [], [], []),
  (400, .invokestatic 58, 3, 160, [2, 7], [], []),
  (403, .lreturn, 1, 0, [], [], []),
  (404, .bipush 114, 2, 0, [], [], []),
  (406, .bipush 117, 2, 0, [], [], []),
  (408, .bipush 110, 2, 0, [], [], []),
  (410, .bipush 115, 2, 0, [], [], []),
  (412, .iconst 0, 1, 0, [], [], []),
  (413, .iconst 0, 1, 0, [], [], []),
  (414, .iconst 0, 1, 0, [], [], []),
  (415, .invokestatic 58, 3, 160, [2, 7], [], []),
  (418, .lreturn, 1, 0, [], [], []),
  (419, .bipush 108, 2, 0, [], [], []),
  (421, .bipush 101, 2, 0, [], [], []),
  (423, .bipush 97, 2, 0, [], [], []),
  (425, .bipush 118, 2, 0, [], [], []),
  (427, .bipush 101, 2, 0, [], [], []),
  (429, .bipush 115, 2, 0, [], [], []),
  (431, .iconst 0, 1, 0, [], [], []),
  (432, .invokestatic 58, 3, 160, [2, 7], [], []),
  (435, .lreturn, 1, 0, [], [], []),
  (436, .bipush 110, 2, 0, [], [], []),
  (438, .bipush 117, 2, 0, [], [], []),
  (440, .bipush 109, 2, 0, [], [], []),
  (442, .bipush 98, 2, 0, [], [], []),
  (444, .bipush 101, 2, 0, [], [], []),
  (446, .bipush 114, 2, 0, [], [], []),
  (448, .iconst 0, 1, 0, [], [], []),
  (449, .invokestatic 58, 3, 160, [2, 7], [], []),
  (452, .lreturn, 1, 0, [], [], [])], [])
def mX12_isWord : sM := (2, 4, [
  (0, .aload_n 0, 1, 0, [], [], []),
  (1, .getfield 30, 3, 0, [], [10, 7], []),
  (4, .iconst 2, 1, 0, [], [], []),
  (5, .if_icmp .ne 19, 3, 24, [], [], []),
  (8, .aload_n 0, 1, 0, [], [], []),
  (9, .getfield 43, 3, 1, [], [10, 12], []),
  (12, .iload_n 1, 1, 1, [], [], []),
  (13, .invokestatic 62, 3, 161, [2, 1], [], []),
  (16, .lcmp, 1, 0, [], [], []),
  (17, .ifCond .ne 7, 3, 24, [], [], []),
  (20, .iconst 1, 1, 0, [], [], []),
  (21, .goto 4, 3, 25, [], [], []),
  (24, .iconst 0, 1, 0, [], [], []),
  (25, .ireturn, 1, 0, [], [], [])], [])
def mX12_isSign : sM := (2, 4, [
  (0, .aload_n 0, 1, 0, [], [], []),
  (1, .getfield 30, 3, 0, [], [10, 7], []),
  (4, .iconst 4, 1, 0, [], [], []),
  (5, .if_icmp .ne 15, 3, 20, [], [], []),
  (8, .aload_n 0, 1, 0, [], [], []),
  (9, .getfield 40, 3, 0, [], [10, 9], []),
  (12, .iload_n 1, 1, 1, [], [], []),
  (13, .if_icmp .ne 7, 3, 20, [], [], []),
  (16, .iconst 1, 1, 0, [], [], []),
  (17, .goto 4, 3, 21, [], [], []),
  (20, .iconst 0, 1, 0, [], [], []),
  (21, .ireturn, 1, 0, [], [], [])], [])
def mX12_isName : sM := (2, 4, [
  (0, .aload_n 0, 1, 0, [], [], []),
  (1, .getfield 30, 3, 0, [], [10, 7], []),
  (4, .iconst 2, 1, 0, [], [], []),
  (5, .if_icmp .eq 5, 3, 10, [], [], []),
  (8, .iconst 0, 1, 0, [], [], []),
  (9, .ireturn, 1, 0, [], [], []),
  (10, .iconst 0, 1, 0, [], [], []),
  (11, .istore_n 1, 1, 1, [], [], []),
  (12, .iload_n 1, 1, 1, [], [], []),
  (13, .bipush 22, 2, 0, [], [], []),
  (15, .if_icmp .gt 23, 3, 38, [], [], []),
  (18, .aload_n 0, 1, 0, [], [], []),
  (19, .getfield 43, 3, 1, [], [10, 12], []),
  (22, .iload_n 1, 1, 1, [], [], []),
  (23, .invokestatic 62, 3, 161, [2, 1], [], []),
  (26, .lcmp, 1, 0, [], [], []),
  (27, .ifCond .ne 5, 3, 32, [], [], []),
  (30, .iconst 0, 1, 0, [], [], []),
  (31, .ireturn, 1, 0, [], [], []),
  (32, .iinc 1 1, 3, 1, [], [], []),
  (35, .goto (-23), 3, 12, [], [], []),
  (38, .iconst 1, 1, 0, [], [], []),
  (39, .ireturn, 1, 0, [], [], [])], [(12, [true, true])])
def mX12_bad : sM := (2, 4, [
  (0, .aload_n 0, 1, 0, [], [], []),
  (1, .aload_n 0, 1, 0, [], [], []),
  (2, .getfield 30, 3, 0, [], [10, 7], []),
  (5, .iconst 1, 1, 0, [], [], []),
  (6, .if_icmp .ne 7, 3, 13, [], [], []),
  (9, .iconst 1, 1, 0, [], [], []),
  (10, .goto 4, 3, 14, [], [], []),
  (13, .iload_n 1, 1, 1, [], [], []),
  (14, .putfield 66, 3, 0, [], [10, 10], []),
  (17, .aload_n 0, 1, 0, [], [], []),
  (18, .aload_n 0, 1, 0, [], [], []),
  (19, .getfield 24, 3, 0, [], [10, 6], []),
  (22, .putfield 69, 3, 0, [], [10, 11], []),
  (25, .iconst 0, 1, 0, [], [], []),
  (26, .ireturn, 1, 0, [], [], [])], [])
def mX12_readNumber : sM := (3, 4, [
  (0, .aload_n 0, 1, 0, [], [], []),
  (1, .getfield 30, 3, 0, [], [10, 7], []),
  (4, .iconst 3, 1, 0, [], [], []),
  (5, .if_icmp .eq 9, 3, 14, [], [], []),
  (8, .aload_n 0, 1, 0, [], [], []),
  (9, .iconst 1, 1, 0, [], [], []),
  (10, .invokevirtual 72, 3, 165, [4, 1], [10], []),
  (13, .ireturn, 1, 0, [], [], []),
  (14, .aload_n 0, 1, 0, [], [], []),
  (15, .getfield 47, 3, 0, [], [10, 8], []),
  (18, .iload_n 1, 1, 1, [], [], []),
  (19, .iload_n 2, 1, 2, [], [], []),
  (20, .invokestatic 75, 3, 155, [4, 3], [], []),
  (23, .ifCond .ne 9, 3, 32, [], [], []),
  (26, .aload_n 0, 1, 0, [], [], []),
  (27, .iconst 2, 1, 0, [], [], []),
  (28, .invokevirtual 72, 3, 165, [4, 1], [10], []),
  (31, .ireturn, 1, 0, [], [], []),
  (32, .aload_n 0, 1, 0, [], [], []),
  (33, .aload_n 0, 1, 0, [], [], []),
  (34, .getfield 47, 3, 0, [], [10, 8], []),
  (37, .putfield 79, 3, 0, [], [10, 13], []),
  (40, .aload_n 0, 1, 0, [], [], []),
  (41, .invokevirtual 82, 3, 159, [0, 0], [10], []),
  (44, .iconst 1, 1, 0, [], [], []),
  (45, .ireturn, 1, 0, [], [], [])], [])
def mX12_readEnd : sM := (1, 4, [
  (0, .aload_n 0, 1, 0, [], [], []),
  (1, .bipush 59, 2, 0, [], [], []),
  (3, .invokevirtual 86, 3, 163, [4, 1], [10], []),
  (6, .ifCond .ne 9, 3, 15, [], [], []),
  (9, .aload_n 0, 1, 0, [], [], []),
  (10, .iconst 1, 1, 0, [], [], []),
  (11, .invokevirtual 72, 3, 165, [4, 1], [10], []),
  (14, .ireturn, 1, 0, [], [], []),
  (15, .aload_n 0, 1, 0, [], [], []),
  (16, .invokevirtual 82, 3, 159, [0, 0], [10], []),
  (19, .iconst 1, 1, 0, [], [], []),
  (20, .ireturn, 1, 0, [], [], [])], [])
def mX12_begin : sM := (2, 0, [
  (0, .aload_n 0, 1, 0, [], [], []),
  (1, .iconst 0, 1, 0, [], [], []),
  (2, .putfield 1, 3, 0, [], [10, 0], []),
  (5, .aload_n 0, 1, 0, [], [], []),
  (6, .aload_n 0, 1, 0, [], [], []),
  (7, .invokevirtual 89, 3, 154, [1, 0], [10], []),
  (10, .putfield 18, 3, 0, [], [10, 3], []),
  (13, .aload_n 0, 1, 0, [], [], []),
  (14, .iload_n 1, 1, 1, [], [], []),
  (15, .putfield 27, 3, 0, [], [10, 4], []),
  (18, .aload_n 0, 1, 0, [], [], []),
  (19, .iconst 0, 1, 0, [], [], []),
  (20, .putfield 66, 3, 0, [], [10, 10], []),
  (23, .aload_n 0, 1, 0, [], [], []),
  (24, .iconst 0, 1, 0, [], [], []),
  (25, .putfield 21, 3, 0, [], [10, 5], []),
  (28, .aload_n 0, 1, 0, [], [], []),
  (29, .invokevirtual 82, 3, 159, [0, 0], [10], []),
  (32, .return_, 1, 0, [], [], [])], [])
def mX12_init : sM := (1, 0, [
  (0, .aload_n 0, 1, 0, [], [], []),
  (1, .invokespecial 93, 3, 0, [], [10], []),
  (4, .aload_n 0, 1, 0, [], [], []),
  (5, .sipush 940, 3, 0, [], [], []),
  (8, .newarray .int, 2, 0, [], [20], []),
  (10, .putfield 7, 3, 2, [], [10, 1], []),
  (13, .aload_n 0, 1, 0, [], [], []),
  (14, .sipush 6062, 3, 0, [], [], []),
  (17, .newarray .int, 2, 0, [], [20], []),
  (19, .putfield 98, 3, 2, [], [10, 14], []),
  (22, .aload_n 0, 1, 0, [], [], []),
  (23, .sipush 2607, 3, 0, [], [], []),
  (26, .newarray .int, 2, 0, [], [20], []),
  (28, .putfield 101, 3, 2, [], [10, 15], []),
  (31, .aload_n 0, 1, 0, [], [], []),
  (32, .sipush 12124, 3, 0, [], [], []),
  (35, .newarray .int, 2, 0, [], [20], []),
  (37, .putfield 104, 3, 2, [], [10, 16], []),
  (40, .aload_n 0, 1, 0, [], [], []),
  (41, .sipush 25704, 3, 0, [], [], []),
  (44, .newarray .int, 2, 0, [], [20], []),
  (46, .putfield 107, 3, 2, [], [10, 17], []),
  (49, .aload_n 0, 1, 0, [], [], []),
  (50, .sipush 3213, 3, 0, [], [], []),
  (53, .newarray .int, 2, 0, [], [20], []),
  (55, .putfield 110, 3, 2, [], [10, 18], []),
  (58, .aload_n 0, 1, 0, [], [], []),
  (59, .sipush 3213, 3, 0, [], [], []),
  (62, .newarray .int, 2, 0, [], [20], []),
  (64, .putfield 113, 3, 2, [], [10, 19], []),
  (67, .aload_n 0, 1, 0, [], [], []),
  (68, .iconst 4, 1, 0, [], [], []),
  (69, .newarray .long, 2, 0, [], [22], []),
  (71, .putfield 116, 3, 2, [], [10, 20], []),
  (74, .aload_n 0, 1, 0, [], [], []),
  (75, .iconst 4, 1, 0, [], [], []),
  (76, .newarray .long, 2, 0, [], [22], []),
  (78, .putfield 120, 3, 2, [], [10, 21], []),
  (81, .aload_n 0, 1, 0, [], [], []),
  (82, .bipush 8, 2, 0, [], [], []),
  (84, .newarray .long, 2, 0, [], [22], []),
  (86, .putfield 123, 3, 2, [], [10, 22], []),
  (89, .aload_n 0, 1, 0, [], [], []),
  (90, .iconst 2, 1, 0, [], [], []),
  (91, .newarray .boolean, 2, 0, [], [23], []),
  (93, .putfield 126, 3, 2, [], [10, 23], []),
  (96, .aload_n 0, 1, 0, [], [], []),
  (97, .sipush 600, 3, 0, [], [], []),
  (100, .newarray .int, 2, 0, [], [20], []),
  (102, .putfield 130, 3, 2, [], [10, 27], []),
  (105, .aload_n 0, 1, 0, [], [], []),
  (106, .sipush 160, 3, 0, [], [], []),
  (109, .newarray .int, 2, 0, [], [20], []),
  (111, .putfield 133, 3, 2, [], [10, 30], []),
  (114, .aload_n 0, 1, 0, [], [], []),
  (115, .iconst 4, 1, 0, [], [], []),
  (116, .newarray .int, 2, 0, [], [20], []),
  (118, .putfield 136, 3, 2, [], [10, 31], []),
  (121, .aload_n 0, 1, 0, [], [], []),
  (122, .sipush 240, 3, 0, [], [], []),
  (125, .newarray .int, 2, 0, [], [20], []),
  (127, .putfield 139, 3, 2, [], [10, 34], []),
  (130, .aload_n 0, 1, 0, [], [], []),
  (131, .getfield 98, 3, 2, [], [10, 14], []),
  (134, .iconst 1, 1, 0, [], [], []),
  (135, .bipush 8, 2, 0, [], [], []),
  (137, .iastore, 1, 0, [], [], []),
  (138, .return_, 1, 0, [], [], [])], [])
def mX12_startSo : sM := (3, 0, [
  (0, .sipush 2607, 3, 0, [], [], []),
  (3, .istore_n 1, 1, 1, [], [], []),
  (4, .iload_n 1, 1, 1, [], [], []),
  (5, .sipush 6062, 3, 0, [], [], []),
  (8, .if_icmp .ge 16, 3, 24, [], [], []),
  (11, .aload_n 0, 1, 0, [], [], []),
  (12, .getfield 98, 3, 2, [], [10, 14], []),
  (15, .iload_n 1, 1, 1, [], [], []),
  (16, .iconst 0, 1, 0, [], [], []),
  (17, .iastore, 1, 0, [], [], []),
  (18, .iinc 1 1, 3, 1, [], [], []),
  (21, .goto (-17), 3, 4, [], [], []),
  (24, .iconst 0, 1, 0, [], [], []),
  (25, .istore_n 1, 1, 1, [], [], []),
  (26, .iload_n 1, 1, 1, [], [], []),
  (27, .aload_n 0, 1, 0, [], [], []),
  (28, .getfield 98, 3, 2, [], [10, 14], []),
  (31, .iconst 0, 1, 0, [], [], []),
  (32, .iaload, 1, 0, [], [], []),
  (33, .if_icmp .ge 51, 3, 84, [], [], []),
  (36, .iconst 0, 1, 0, [], [], []),
  (37, .istore_n 2, 1, 2, [], [], []),
  (38, .iload_n 2, 1, 2, [], [], []),
  (39, .aload_n 0, 1, 0, [], [], []),
  (40, .getfield 98, 3, 2, [], [10, 14], []),
  (43, .iconst 2, 1, 0, [], [], []),
  (44, .iload_n 1, 1, 1, [], [], []),
  (45, .iadd, 1, 0, [], [], []),
  (46, .iaload, 1, 0, [], [], []),
  (47, .if_icmp .ge 31, 3, 78, [], [], []),
  (50, .aload_n 0, 1, 0, [], [], []),
  (51, .iload_n 1, 1, 1, [], [], []),
  (52, .iload_n 2, 1, 2, [], [], []),
  (53, .aload_n 0, 1, 0, [], [], []),
  (54, .getfield 98, 3, 2, [], [10, 14], []),
  (57, .sipush 207, 3, 0, [], [], []),
  (60, .sipush 600, 3, 0, [], [], []),
  (63, .iload_n 1, 1, 1, [], [], []),
  (64, .imul, 1, 0, [], [], []),
  (65, .iadd, 1, 0, [], [], []),
  (66, .iload_n 2, 1, 2, [], [], []),
  (67, .iadd, 1, 0, [], [], []),
  (68, .iaload, 1, 0, [], [], []),
  (69, .invokevirtual 142, 3, 185, [0, 3], [10], []),
  (72, .iinc 2 1, 3, 2, [], [], []),
  (75, .goto (-37), 3, 38, [], [], []),
  (78, .iinc 1 1, 3, 1, [], [], []),
  (81, .goto (-55), 3, 26, [], [], []),
  (84, .aload_n 0, 1, 0, [], [], []),
  (85, .getfield 98, 3, 2, [], [10, 14], []),
  (88, .sipush 2615, 3, 0, [], [], []),
  (91, .aload_n 0, 1, 0, [], [], []),
  (92, .getfield 98, 3, 2, [], [10, 14], []),
  (95, .bipush 6, 2, 0, [], [], []),
  (97, .iaload, 1, 0, [], [], []),
  (98, .iastore, 1, 0, [], [], []),
  (99, .iconst 0, 1, 0, [], [], []),
  (100, .istore_n 1, 1, 1, [], [], []),
  (101, .iload_n 1, 1, 1, [], [], []),
  (102, .sipush 200, 3, 0, [], [], []),
  (105, .if_icmp .ge 28, 3, 133, [], [], []),
  (108, .aload_n 0, 1, 0, [], [], []),
  (109, .getfield 98, 3, 2, [], [10, 14], []),
  (112, .sipush 2616, 3, 0, [], [], []),
  (115, .iload_n 1, 1, 1, [], [], []),
  (116, .iadd, 1, 0, [], [], []),
  (117, .aload_n 0, 1, 0, [], [], []),
  (118, .getfield 98, 3, 2, [], [10, 14], []),
  (121, .bipush 7, 2, 0, [], [], []),
  (123, .iload_n 1, 1, 1, [], [], []),
  (124, .iadd, 1, 0, [], [], []),
  (125, .iaload, 1, 0, [], [], []),
  (126, .iastore, 1, 0, [], [], []),
  (127, .iinc 1 1, 3, 1, [], [], []),
  (130, .goto (-29), 3, 101, [], [], []),
  (133, .return_, 1, 0, [], [], [])], [(4, [true, true, false]), (26, [true, true, false]), (38, [true, true, true]), (101, [true, true, false])])
def mX12_findIn : sM := (5, 1, [
  (0, .iconst 0, 1, 0, [], [], []),
  (1, .istore 4, 2, 4, [], [], []),
  (3, .iload 4, 2, 4, [], [], []),
  (5, .iload_n 1, 1, 1, [], [], []),
  (6, .if_icmp .ge 21, 3, 27, [], [], []),
  (9, .aload_n 0, 1, 0, [], [], []),
  (10, .iload 4, 2, 4, [], [], []),
  (12, .laload, 1, 0, [], [], []),
  (13, .lload_n 2, 1, 2, [], [], []),
  (14, .lcmp, 1, 0, [], [], []),
  (15, .ifCond .ne 6, 3, 21, [], [], []),
  (18, .iload 4, 2, 4, [], [], []),
  (20, .ireturn, 1, 0, [], [], []),
  (21, .iinc 4 1, 3, 4, [], [], []),
  (24, .goto (-21), 3, 3, [], [], []),
  (27, .iconst (-1), 1, 0, [], [], []),
  (28, .ireturn, 1, 0, [], [], [])], [(3, [true, true, true, false, true])])
def mX12_readLeaf : sM := (2, 4, [
  (0, .iload_n 1, 1, 1, [], [], []),
  (1, .ifCond .le 9, 3, 10, [], [], []),
  (4, .aload_n 0, 1, 0, [], [], []),
  (5, .iconst 3, 1, 0, [], [], []),
  (6, .invokevirtual 72, 3, 165, [4, 1], [10], []),
  (9, .ireturn, 1, 0, [], [], []),
  (10, .aload_n 0, 1, 0, [], [], []),
  (11, .invokevirtual 82, 3, 159, [0, 0], [10], []),
  (14, .aload_n 0, 1, 0, [], [], []),
  (15, .iconst 4, 1, 0, [], [], []),
  (16, .bipush 32, 2, 0, [], [], []),
  (18, .invokevirtual 146, 3, 166, [4, 2], [10], []),
  (21, .ifCond .ne 5, 3, 26, [], [], []),
  (24, .iconst 0, 1, 0, [], [], []),
  (25, .ireturn, 1, 0, [], [], []),
  (26, .aload_n 0, 1, 0, [], [], []),
  (27, .getfield 101, 3, 2, [], [10, 15], []),
  (30, .iconst 1, 1, 0, [], [], []),
  (31, .aload_n 0, 1, 0, [], [], []),
  (32, .getfield 79, 3, 0, [], [10, 13], []),
  (35, .iastore, 1, 0, [], [], []),
  (36, .iconst 1, 1, 0, [], [], []),
  (37, .ireturn, 1, 0, [], [], [])], [])
def mX12_areOf : sM := (3, 4, [
  (0, .aload_n 0, 1, 0, [], [], []),
  (1, .getfield 24, 3, 0, [], [10, 6], []),
  (4, .istore_n 2, 1, 2, [], [], []),
  (5, .iload_n 2, 1, 2, [], [], []),
  (6, .aload_n 0, 1, 0, [], [], []),
  (7, .getfield 21, 3, 0, [], [10, 5], []),
  (10, .if_icmp .ge 21, 3, 31, [], [], []),
  (13, .aload_n 0, 1, 0, [], [], []),
  (14, .getfield 7, 3, 2, [], [10, 1], []),
  (17, .iload_n 2, 1, 2, [], [], []),
  (18, .iaload, 1, 0, [], [], []),
  (19, .iload_n 1, 1, 1, [], [], []),
  (20, .if_icmp .le 5, 3, 25, [], [], []),
  (23, .iconst 0, 1, 0, [], [], []),
  (24, .ireturn, 1, 0, [], [], []),
  (25, .iinc 2 1, 3, 2, [], [], []),
  (28, .goto (-23), 3, 5, [], [], []),
  (31, .iconst 1, 1, 0, [], [], []),
  (32, .ireturn, 1, 0, [], [], [])], [(5, [true, true, true])])
def mX12_areBits : sM := (2, 4, [
  (0, .aload_n 0, 1, 0, [], [], []),
  (1, .getfield 24, 3, 0, [], [10, 6], []),
  (4, .istore_n 1, 1, 1, [], [], []),
  (5, .iload_n 1, 1, 1, [], [], []),
  (6, .aload_n 0, 1, 0, [], [], []),
  (7, .getfield 21, 3, 0, [], [10, 5], []),
  (10, .if_icmp .ge 33, 3, 43, [], [], []),
  (13, .aload_n 0, 1, 0, [], [], []),
  (14, .getfield 7, 3, 2, [], [10, 1], []),
  (17, .iload_n 1, 1, 1, [], [], []),
  (18, .iaload, 1, 0, [], [], []),
  (19, .bipush 105, 2, 0, [], [], []),
  (21, .if_icmp .eq 16, 3, 37, [], [], []),
  (24, .aload_n 0, 1, 0, [], [], []),
  (25, .getfield 7, 3, 2, [], [10, 1], []),
  (28, .iload_n 1, 1, 1, [], [], []),
  (29, .iaload, 1, 0, [], [], []),
  (30, .bipush 111, 2, 0, [], [], []),
  (32, .if_icmp .eq 5, 3, 37, [], [], []),
  (35, .iconst 0, 1, 0, [], [], []),
  (36, .ireturn, 1, 0, [], [], []),
  (37, .iinc 1 1, 3, 1, [], [], []),
  (40, .goto (-35), 3, 5, [], [], []),
  (43, .iconst 1, 1, 0, [], [], []),
  (44, .ireturn, 1, 0, [], [], [])], [(5, [true, true])])
def mX12_readRow : sM := (3, 4, [
  (0, .aload_n 0, 1, 0, [], [], []),
  (1, .getfield 101, 3, 2, [], [10, 15], []),
  (4, .iconst 0, 1, 0, [], [], []),
  (5, .iaload, 1, 0, [], [], []),
  (6, .iconst 4, 1, 0, [], [], []),
  (7, .if_icmp .ne 9, 3, 16, [], [], []),
  (10, .aload_n 0, 1, 0, [], [], []),
  (11, .iconst 4, 1, 0, [], [], []),
  (12, .invokevirtual 72, 3, 165, [4, 1], [10], []),
  (15, .ireturn, 1, 0, [], [], []),
  (16, .aload_n 0, 1, 0, [], [], []),
  (17, .getfield 101, 3, 2, [], [10, 15], []),
  (20, .iconst 0, 1, 0, [], [], []),
  (21, .iaload, 1, 0, [], [], []),
  (22, .istore_n 1, 1, 1, [], [], []),
  (23, .aload_n 0, 1, 0, [], [], []),
  (24, .invokevirtual 82, 3, 159, [0, 0], [10], []),
  (27, .aload_n 0, 1, 0, [], [], []),
  (28, .invokevirtual 150, 3, 164, [4, 0], [10], []),
  (31, .ifCond .ne 9, 3, 40, [], [], []),
  (34, .aload_n 0, 1, 0, [], [], []),
  (35, .iconst 1, 1, 0, [], [], []),
  (36, .invokevirtual 72, 3, 165, [4, 1], [10], []),
  (39, .ireturn, 1, 0, [], [], []),
  (40, .aload_n 0, 1, 0, [], [], []),
  (41, .getfield 120, 3, 2, [], [10, 21], []),
  (44, .iload_n 1, 1, 1, [], [], []),
  (45, .aload_n 0, 1, 0, [], [], []),
  (46, .getfield 43, 3, 1, [], [10, 12], []),
  (49, .invokestatic 154, 3, 171, [1, 3], [], []),
  (52, .iconst (-1), 1, 0, [], [], []),
  (53, .if_icmp .eq 9, 3, 62, [], [], []),
  (56, .aload_n 0, 1, 0, [], [], []),
  (57, .iconst 3, 1, 0, [], [], []),
  (58, .invokevirtual 72, 3, 165, [4, 1], [10], []),
  (61, .ireturn, 1, 0, [], [], []),
  (62, .aload_n 0, 1, 0, [], [], []),
  (63, .getfield 120, 3, 2, [], [10, 21], []),
  (66, .iload_n 1, 1, 1, [], [], []),
  (67, .aload_n 0, 1, 0, [], [], []),
  (68, .getfield 43, 3, 1, [], [10, 12], []),
  (71, .lastore, 1, 0, [], [], []),
  (72, .aload_n 0, 1, 0, [], [], []),
  (73, .getfield 101, 3, 2, [], [10, 15], []),
  (76, .iconst 0, 1, 0, [], [], []),
  (77, .dup2, 1, 0, [], [], []),
  (78, .iaload, 1, 0, [], [], []),
  (79, .iconst 1, 1, 0, [], [], []),
  (80, .iadd, 1, 0, [], [], []),
  (81, .iastore, 1, 0, [], [], []),
  (82, .aload_n 0, 1, 0, [], [], []),
  (83, .invokevirtual 82, 3, 159, [0, 0], [10], []),
  (86, .aload_n 0, 1, 0, [], [], []),
  (87, .getfield 30, 3, 0, [], [10, 7], []),
  (90, .iconst 2, 1, 0, [], [], []),
  (91, .if_icmp .ne 123, 3, 214, [], [], []),
  (94, .aload_n 0, 1, 0, [], [], []),
  (95, .invokevirtual 158, 3, 174, [4, 0], [10], []),
  (98, .ifCond .ne 9, 3, 107, [], [], []),
  (101, .aload_n 0, 1, 0, [], [], []),
  (102, .iconst 2, 1, 0, [], [], []),
  (103, .invokevirtual 72, 3, 165, [4, 1], [10], []),
  (106, .ireturn, 1, 0, [], [], []),
  (107, .aload_n 0, 1, 0, [], [], []),
  (108, .getfield 101, 3, 2, [], [10, 15], []),
  (111, .iconst 2, 1, 0, [], [], []),
  (112, .iload_n 1, 1, 1, [], [], []),
  (113, .iadd, 1, 0, [], [], []),
  (114, .iaload, 1, 0, [], [], []),
  (115, .aload_n 0, 1, 0, [], [], []),
  (116, .getfield 21, 3, 0, [], [10, 5], []),
  (119, .iadd, 1, 0, [], [], []),
  (120, .aload_n 0, 1, 0, [], [], []),
  (121, .getfield 24, 3, 0, [], [10, 6], []),
  (124, .isub, 1, 0, [], [], []),
  (125, .sipush 600, 3, 0, [], [], []),
  (128, .if_icmp .le 9, 3, 137, [], [], []),
  (131, .aload_n 0, 1, 0, [], [], []),
  (132, .iconst 4, 1, 0, [], [], []),
  (133, .invokevirtual 72, 3, 165, [4, 1], [10], []),
  (136, .ireturn, 1, 0, [], [], []),
  (137, .aload_n 0, 1, 0, [], [], []),
  (138, .getfield 24, 3, 0, [], [10, 6], []),
  (141, .istore_n 2, 1, 2, [], [], []),
  (142, .iload_n 2, 1, 2, [], [], []),
  (143, .aload_n 0, 1, 0, [], [], []),
  (144, .getfield 21, 3, 0, [], [10, 5], []),
  (147, .if_icmp .ge 60, 3, 207, [], [], []),
  (150, .aload_n 0, 1, 0, [], [], []),
  (151, .getfield 101, 3, 2, [], [10, 15], []),
  (154, .sipush 207, 3, 0, [], [], []),
  (157, .sipush 600, 3, 0, [], [], []),
  (160, .iload_n 1, 1, 1, [], [], []),
  (161, .imul, 1, 0, [], [], []),
  (162, .iadd, 1, 0, [], [], []),
  (163, .aload_n 0, 1, 0, [], [], []),
  (164, .getfield 101, 3, 2, [], [10, 15], []),
  (167, .iconst 2, 1, 0, [], [], []),
  (168, .iload_n 1, 1, 1, [], [], []),
  (169, .iadd, 1, 0, [], [], []),
  (170, .iaload, 1, 0, [], [], []),
  (171, .iadd, 1, 0, [], [], []),
  (172, .aload_n 0, 1, 0, [], [], []),
  (173, .getfield 7, 3, 2, [], [10, 1], []),
  (176, .iload_n 2, 1, 2, [], [], []),
  (177, .iaload, 1, 0, [], [], []),
  (178, .bipush 105, 2, 0, [], [], []),
  (180, .if_icmp .ne 7, 3, 187, [], [], []),
  (183, .iconst 1, 1, 0, [], [], []),
  (184, .goto 4, 3, 188, [], [], []),
  (187, .iconst 0, 1, 0, [], [], []),
  (188, .iastore, 1, 0, [], [], []),
  (189, .aload_n 0, 1, 0, [], [], []),
  (190, .getfield 101, 3, 2, [], [10, 15], []),
  (193, .iconst 2, 1, 0, [], [], []),
  (194, .iload_n 1, 1, 1, [], [], []),
  (195, .iadd, 1, 0, [], [], []),
  (196, .dup2, 1, 0, [], [], []),
  (197, .iaload, 1, 0, [], [], []),
  (198, .iconst 1, 1, 0, [], [], []),
  (199, .iadd, 1, 0, [], [], []),
  (200, .iastore, 1, 0, [], [], []),
  (201, .iinc 2 1, 3, 2, [], [], []),
  (204, .goto (-62), 3, 142, [], [], []),
  (207, .aload_n 0, 1, 0, [], [], []),
  (208, .invokevirtual 82, 3, 159, [0, 0], [10], []),
  (211, .goto (-125), 3, 86, [], [], []),
  (214, .iconst 1, 1, 0, [], [], []),
  (215, .ireturn, 1, 0, [], [], [])], [(86, [true, true, false]), (142, [true, true, true])])
def mX12_readLetters : sM := (2, 4, [
  (0, .aload_n 0, 1, 0, [], [], []),
  (1, .getfield 161, 3, 3, [], [10, 25], []),
  (4, .ifCond .eq 9, 3, 13, [], [], []),
  (7, .aload_n 0, 1, 0, [], [], []),
  (8, .iconst 3, 1, 0, [], [], []),
  (9, .invokevirtual 72, 3, 165, [4, 1], [10], []),
  (12, .ireturn, 1, 0, [], [], []),
  (13, .aload_n 0, 1, 0, [], [], []),
  (14, .iconst 1, 1, 0, [], [], []),
  (15, .putfield 161, 3, 3, [], [10, 25], []),
  (18, .aload_n 0, 1, 0, [], [], []),
  (19, .invokevirtual 82, 3, 159, [0, 0], [10], []),
  (22, .aload_n 0, 1, 0, [], [], []),
  (23, .getfield 30, 3, 0, [], [10, 7], []),
  (26, .iconst 2, 1, 0, [], [], []),
  (27, .if_icmp .ne 108, 3, 135, [], [], []),
  (30, .aload_n 0, 1, 0, [], [], []),
  (31, .bipush 104, 2, 0, [], [], []),
  (33, .invokevirtual 165, 3, 173, [4, 1], [10], []),
  (36, .ifCond .ne 9, 3, 45, [], [], []),
  (39, .aload_n 0, 1, 0, [], [], []),
  (40, .iconst 2, 1, 0, [], [], []),
  (41, .invokevirtual 72, 3, 165, [4, 1], [10], []),
  (44, .ireturn, 1, 0, [], [], []),
  (45, .aload_n 0, 1, 0, [], [], []),
  (46, .getfield 101, 3, 2, [], [10, 15], []),
  (49, .bipush 6, 2, 0, [], [], []),
  (51, .iaload, 1, 0, [], [], []),
  (52, .aload_n 0, 1, 0, [], [], []),
  (53, .getfield 21, 3, 0, [], [10, 5], []),
  (56, .iadd, 1, 0, [], [], []),
  (57, .aload_n 0, 1, 0, [], [], []),
  (58, .getfield 24, 3, 0, [], [10, 6], []),
  (61, .isub, 1, 0, [], [], []),
  (62, .sipush 200, 3, 0, [], [], []),
  (65, .if_icmp .le 9, 3, 74, [], [], []),
  (68, .aload_n 0, 1, 0, [], [], []),
  (69, .iconst 4, 1, 0, [], [], []),
  (70, .invokevirtual 72, 3, 165, [4, 1], [10], []),
  (73, .ireturn, 1, 0, [], [], []),
  (74, .aload_n 0, 1, 0, [], [], []),
  (75, .getfield 24, 3, 0, [], [10, 6], []),
  (78, .istore_n 1, 1, 1, [], [], []),
  (79, .iload_n 1, 1, 1, [], [], []),
  (80, .aload_n 0, 1, 0, [], [], []),
  (81, .getfield 21, 3, 0, [], [10, 5], []),
  (84, .if_icmp .ge 44, 3, 128, [], [], []),
  (87, .aload_n 0, 1, 0, [], [], []),
  (88, .getfield 101, 3, 2, [], [10, 15], []),
  (91, .bipush 7, 2, 0, [], [], []),
  (93, .aload_n 0, 1, 0, [], [], []),
  (94, .getfield 101, 3, 2, [], [10, 15], []),
  (97, .bipush 6, 2, 0, [], [], []),
  (99, .iaload, 1, 0, [], [], []),
  (100, .iadd, 1, 0, [], [], []),
  (101, .aload_n 0, 1, 0, [], [], []),
  (102, .getfield 7, 3, 2, [], [10, 1], []),
  (105, .iload_n 1, 1, 1, [], [], []),
  (106, .iaload, 1, 0, [], [], []),
  (107, .bipush 97, 2, 0, [], [], []),
  (109, .isub, 1, 0, [], [], []),
  (110, .iastore, 1, 0, [], [], []),
  (111, .aload_n 0, 1, 0, [], [], []),
  (112, .getfield 101, 3, 2, [], [10, 15], []),
  (115, .bipush 6, 2, 0, [], [], []),
  (117, .dup2, 1, 0, [], [], []),
  (118, .iaload, 1, 0, [], [], []),
  (119, .iconst 1, 1, 0, [], [], []),
  (120, .iadd, 1, 0, [], [], []),
  (121, .iastore, 1, 0, [], [], []),
  (122, .iinc 1 1, 3, 1, [], [], []),
  (125, .goto (-46), 3, 79, [], [], []),
  (128, .aload_n 0, 1, 0, [], [], []),
  (129, .invokevirtual 82, 3, 159, [0, 0], [10], []),
  (132, .goto (-110), 3, 22, [], [], []),
  (135, .iconst 1, 1, 0, [], [], []),
  (136, .ireturn, 1, 0, [], [], [])], [(22, [true, false]), (79, [true, true])])
def mX12_readLine : sM := (2, 4, [
  (0, .aload_n 0, 1, 0, [], [], []),
  (1, .iconst 0, 1, 0, [], [], []),
  (2, .invokevirtual 168, 3, 162, [4, 1], [10], []),
  (5, .ifCond .eq 9, 3, 14, [], [], []),
  (8, .aload_n 0, 1, 0, [], [], []),
  (9, .iload_n 1, 1, 1, [], [], []),
  (10, .invokevirtual 171, 3, 172, [4, 1], [10], []),
  (13, .ireturn, 1, 0, [], [], []),
  (14, .aload_n 0, 1, 0, [], [], []),
  (15, .iconst 1, 1, 0, [], [], []),
  (16, .invokevirtual 168, 3, 162, [4, 1], [10], []),
  (19, .ifCond .eq 8, 3, 27, [], [], []),
  (22, .aload_n 0, 1, 0, [], [], []),
  (23, .invokevirtual 174, 3, 175, [4, 0], [10], []),
  (26, .ireturn, 1, 0, [], [], []),
  (27, .aload_n 0, 1, 0, [], [], []),
  (28, .iconst 2, 1, 0, [], [], []),
  (29, .invokevirtual 168, 3, 162, [4, 1], [10], []),
  (32, .ifCond .eq 10, 3, 42, [], [], []),
  (35, .aload_n 0, 1, 0, [], [], []),
  (36, .invokevirtual 177, 3, 176, [4, 0], [10], []),
  (39, .goto 8, 3, 47, [], [], []),
  (42, .aload_n 0, 1, 0, [], [], []),
  (43, .iconst 1, 1, 0, [], [], []),
  (44, .invokevirtual 72, 3, 165, [4, 1], [10], []),
  (47, .ireturn, 1, 0, [], [], [])], [])
def mX12_room : sM := (3, 1, [
  (0, .aload_n 0, 1, 0, [], [], []),
  (1, .sipush 900, 3, 0, [], [], []),
  (4, .invokevirtual 180, 3, 168, [0, 1], [10], []),
  (7, .iconst 0, 1, 0, [], [], []),
  (8, .istore_n 1, 1, 1, [], [], []),
  (9, .iload_n 1, 1, 1, [], [], []),
  (10, .sipush 2607, 3, 0, [], [], []),
  (13, .if_icmp .ge 16, 3, 29, [], [], []),
  (16, .aload_n 0, 1, 0, [], [], []),
  (17, .getfield 101, 3, 2, [], [10, 15], []),
  (20, .iload_n 1, 1, 1, [], [], []),
  (21, .iconst 0, 1, 0, [], [], []),
  (22, .iastore, 1, 0, [], [], []),
  (23, .iinc 1 1, 3, 1, [], [], []),
  (26, .goto (-17), 3, 9, [], [], []),
  (29, .aload_n 0, 1, 0, [], [], []),
  (30, .getfield 101, 3, 2, [], [10, 15], []),
  (33, .iconst 1, 1, 0, [], [], []),
  (34, .bipush 8, 2, 0, [], [], []),
  (36, .iastore, 1, 0, [], [], []),
  (37, .aload_n 0, 1, 0, [], [], []),
  (38, .iconst 0, 1, 0, [], [], []),
  (39, .putfield 161, 3, 3, [], [10, 25], []),
  (42, .iconst 0, 1, 0, [], [], []),
  (43, .istore_n 1, 1, 1, [], [], []),
  (44, .aload_n 0, 1, 0, [], [], []),
  (45, .getfield 30, 3, 0, [], [10, 7], []),
  (48, .ifCond .eq 31, 3, 79, [], [], []),
  (51, .aload_n 0, 1, 0, [], [], []),
  (52, .iload_n 1, 1, 1, [], [], []),
  (53, .invokevirtual 183, 3, 177, [4, 1], [10], []),
  (56, .ifCond .eq 10, 3, 66, [], [], []),
  (59, .aload_n 0, 1, 0, [], [], []),
  (60, .invokevirtual 186, 3, 167, [4, 0], [10], []),
  (63, .ifCond .ne 10, 3, 73, [], [], []),
  (66, .iconst (-1), 1, 0, [], [], []),
  (67, .aload_n 0, 1, 0, [], [], []),
  (68, .getfield 69, 3, 0, [], [10, 11], []),
  (71, .isub, 1, 0, [], [], []),
  (72, .ireturn, 1, 0, [], [], []),
  (73, .iinc 1 1, 3, 1, [], [], []),
  (76, .goto (-32), 3, 44, [], [], []),
  (79, .iconst 0, 1, 0, [], [], []),
  (80, .istore_n 2, 1, 2, [], [], []),
  (81, .iload_n 2, 1, 2, [], [], []),
  (82, .sipush 2607, 3, 0, [], [], []),
  (85, .if_icmp .ge 21, 3, 106, [], [], []),
  (88, .aload_n 0, 1, 0, [], [], []),
  (89, .getfield 98, 3, 2, [], [10, 14], []),
  (92, .iload_n 2, 1, 2, [], [], []),
  (93, .aload_n 0, 1, 0, [], [], []),
  (94, .getfield 101, 3, 2, [], [10, 15], []),
  (97, .iload_n 2, 1, 2, [], [], []),
  (98, .iaload, 1, 0, [], [], []),
  (99, .iastore, 1, 0, [], [], []),
  (100, .iinc 2 1, 3, 2, [], [], []),
  (103, .goto (-22), 3, 81, [], [], []),
  (106, .iconst 0, 1, 0, [], [], []),
  (107, .istore_n 2, 1, 2, [], [], []),
  (108, .iload_n 2, 1, 2, [], [], []),
  (109, .iconst 4, 1, 0, [], [], []),
  (110, .if_icmp .ge 21, 3, 131, [], [], []),
  (113, .aload_n 0, 1, 0, [], [], []),
  (114, .getfield 116, 3, 2, [], [10, 20], []),
  (117, .iload_n 2, 1, 2, [], [], []),
  (118, .aload_n 0, 1, 0, [], [], []),
  (119, .getfield 120, 3, 2, [], [10, 21], []),
  (122, .iload_n 2, 1, 2, [], [], []),
  (123, .laload, 1, 0, [], [], []),
  (124, .lastore, 1, 0, [], [], []),
  (125, .iinc 2 1, 3, 2, [], [], []),
  (128, .goto (-20), 3, 108, [], [], []),
  (131, .aload_n 0, 1, 0, [], [], []),
  (132, .invokevirtual 189, 3, 170, [0, 0], [10], []),
  (135, .aload_n 0, 1, 0, [], [], []),
  (136, .iconst 0, 1, 0, [], [], []),
  (137, .putfield 192, 3, 0, [], [10, 24], []),
  (140, .iload_n 1, 1, 1, [], [], []),
  (141, .ireturn, 1, 0, [], [], [])], [(9, [true, true, false]), (44, [true, true, false]), (81, [true, true, true]), (108, [true, true, true])])
def mX12_fault : sM := (1, 1, [
  (0, .aload_n 0, 1, 0, [], [], []),
  (1, .iconst 0, 1, 0, [], [], []),
  (2, .putfield 1, 3, 0, [], [10, 0], []),
  (5, .aload_n 0, 1, 0, [], [], []),
  (6, .getfield 66, 3, 0, [], [10, 10], []),
  (9, .ireturn, 1, 0, [], [], [])], [])
def mX12_sizeOf : sM := (2, 1, [
  (0, .aload_n 0, 1, 0, [], [], []),
  (1, .getfield 98, 3, 2, [], [10, 14], []),
  (4, .sipush 2607, 3, 0, [], [], []),
  (7, .iload_n 1, 1, 1, [], [], []),
  (8, .iadd, 1, 0, [], [], []),
  (9, .iaload, 1, 0, [], [], []),
  (10, .ireturn, 1, 0, [], [], [])], [])
def mX12_bitOf : sM := (3, 1, [
  (0, .aload_n 0, 1, 0, [], [], []),
  (1, .getfield 98, 3, 2, [], [10, 14], []),
  (4, .sipush 3420, 3, 0, [], [], []),
  (7, .sipush 600, 3, 0, [], [], []),
  (10, .iload_n 1, 1, 1, [], [], []),
  (11, .imul, 1, 0, [], [], []),
  (12, .iadd, 1, 0, [], [], []),
  (13, .iload_n 2, 1, 2, [], [], []),
  (14, .iadd, 1, 0, [], [], []),
  (15, .iaload, 1, 0, [], [], []),
  (16, .ireturn, 1, 0, [], [], [])], [])
def mX12_leafAt : sM := (3, 1, [
  (0, .sipush 2816, 3, 0, [], [], []),
  (3, .sipush 151, 3, 0, [], [], []),
  (6, .iload_n 1, 1, 1, [], [], []),
  (7, .imul, 1, 0, [], [], []),
  (8, .iadd, 1, 0, [], [], []),
  (9, .iload_n 2, 1, 2, [], [], []),
  (10, .iadd, 1, 0, [], [], []),
  (11, .ireturn, 1, 0, [], [], [])], [])
def mX12_leafOf : sM := (5, 1, [
  (0, .iconst 0, 1, 0, [], [], []),
  (1, .istore_n 3, 1, 3, [], [], []),
  (2, .aload_n 0, 1, 0, [], [], []),
  (3, .getfield 98, 3, 2, [], [10, 14], []),
  (6, .aload_n 0, 1, 0, [], [], []),
  (7, .iload_n 1, 1, 1, [], [], []),
  (8, .iconst 0, 1, 0, [], [], []),
  (9, .invokevirtual 195, 3, 182, [1, 2], [10], []),
  (12, .iaload, 1, 0, [], [], []),
  (13, .istore 4, 2, 4, [], [], []),
  (15, .iload_n 2, 1, 2, [], [], []),
  (16, .iload 4, 2, 4, [], [], []),
  (18, .if_icmp .lt 25, 3, 43, [], [], []),
  (21, .iinc 3 1, 3, 3, [], [], []),
  (24, .iload 4, 2, 4, [], [], []),
  (26, .aload_n 0, 1, 0, [], [], []),
  (27, .getfield 98, 3, 2, [], [10, 14], []),
  (30, .aload_n 0, 1, 0, [], [], []),
  (31, .iload_n 1, 1, 1, [], [], []),
  (32, .iload_n 3, 1, 3, [], [], []),
  (33, .invokevirtual 195, 3, 182, [1, 2], [10], []),
  (36, .iaload, 1, 0, [], [], []),
  (37, .iadd, 1, 0, [], [], []),
  (38, .istore 4, 2, 4, [], [], []),
  (40, .goto (-25), 3, 15, [], [], []),
  (43, .iload_n 3, 1, 3, [], [], []),
  (44, .ireturn, 1, 0, [], [], [])], [(15, [true, true, true, true, true])])
def mX12_splitLeaf : sM := (5, 0, [
  (0, .aload_n 0, 1, 0, [], [], []),
  (1, .getfield 98, 3, 2, [], [10, 14], []),
  (4, .aload_n 0, 1, 0, [], [], []),
  (5, .iload_n 1, 1, 1, [], [], []),
  (6, .iload_n 2, 1, 2, [], [], []),
  (7, .invokevirtual 195, 3, 182, [1, 2], [10], []),
  (10, .iaload, 1, 0, [], [], []),
  (11, .istore_n 3, 1, 3, [], [], []),
  (12, .aload_n 0, 1, 0, [], [], []),
  (13, .getfield 98, 3, 2, [], [10, 14], []),
  (16, .sipush 2611, 3, 0, [], [], []),
  (19, .iload_n 1, 1, 1, [], [], []),
  (20, .iadd, 1, 0, [], [], []),
  (21, .iaload, 1, 0, [], [], []),
  (22, .istore 4, 2, 4, [], [], []),
  (24, .iload 4, 2, 4, [], [], []),
  (26, .iload_n 2, 1, 2, [], [], []),
  (27, .iconst 1, 1, 0, [], [], []),
  (28, .iadd, 1, 0, [], [], []),
  (29, .if_icmp .le 35, 3, 64, [], [], []),
  (32, .aload_n 0, 1, 0, [], [], []),
  (33, .getfield 98, 3, 2, [], [10, 14], []),
  (36, .aload_n 0, 1, 0, [], [], []),
  (37, .iload_n 1, 1, 1, [], [], []),
  (38, .iload 4, 2, 4, [], [], []),
  (40, .invokevirtual 195, 3, 182, [1, 2], [10], []),
  (43, .aload_n 0, 1, 0, [], [], []),
  (44, .getfield 98, 3, 2, [], [10, 14], []),
  (47, .aload_n 0, 1, 0, [], [], []),
  (48, .iload_n 1, 1, 1, [], [], []),
  (49, .iload 4, 2, 4, [], [], []),
  (51, .iconst 1, 1, 0, [], [], []),
  (52, .isub, 1, 0, [], [], []),
  (53, .invokevirtual 195, 3, 182, [1, 2], [10], []),
  (56, .iaload, 1, 0, [], [], []),
  (57, .iastore, 1, 0, [], [], []),
  (58, .iinc 4 (-1), 3, 4, [], [], []),
  (61, .goto (-37), 3, 24, [], [], []),
  (64, .aload_n 0, 1, 0, [], [], []),
  (65, .getfield 98, 3, 2, [], [10, 14], []),
  (68, .aload_n 0, 1, 0, [], [], []),
  (69, .iload_n 1, 1, 1, [], [], []),
  (70, .iload_n 2, 1, 2, [], [], []),
  (71, .invokevirtual 195, 3, 182, [1, 2], [10], []),
  (74, .iload_n 3, 1, 3, [], [], []),
  (75, .iconst 1, 1, 0, [], [], []),
  (76, .iadd, 1, 0, [], [], []),
  (77, .iconst 2, 1, 0, [], [], []),
  (78, .idiv, 1, 0, [], [], []),
  (79, .iastore, 1, 0, [], [], []),
  (80, .aload_n 0, 1, 0, [], [], []),
  (81, .getfield 98, 3, 2, [], [10, 14], []),
  (84, .aload_n 0, 1, 0, [], [], []),
  (85, .iload_n 1, 1, 1, [], [], []),
  (86, .iload_n 2, 1, 2, [], [], []),
  (87, .iconst 1, 1, 0, [], [], []),
  (88, .iadd, 1, 0, [], [], []),
  (89, .invokevirtual 195, 3, 182, [1, 2], [10], []),
  (92, .iload_n 3, 1, 3, [], [], []),
  (93, .iconst 2, 1, 0, [], [], []),
  (94, .idiv, 1, 0, [], [], []),
  (95, .iastore, 1, 0, [], [], []),
  (96, .aload_n 0, 1, 0, [], [], []),
  (97, .getfield 98, 3, 2, [], [10, 14], []),
  (100, .sipush 2611, 3, 0, [], [], []),
  (103, .iload_n 1, 1, 1, [], [], []),
  (104, .iadd, 1, 0, [], [], []),
  (105, .dup2, 1, 0, [], [], []),
  (106, .iaload, 1, 0, [], [], []),
  (107, .iconst 1, 1, 0, [], [], []),
  (108, .iadd, 1, 0, [], [], []),
  (109, .iastore, 1, 0, [], [], []),
  (110, .return_, 1, 0, [], [], [])], [(24, [true, true, true, true, true])])
def mX12_putBit : sM := (6, 0, [
  (0, .sipush 3420, 3, 0, [], [], []),
  (3, .sipush 600, 3, 0, [], [], []),
  (6, .iload_n 1, 1, 1, [], [], []),
  (7, .imul, 1, 0, [], [], []),
  (8, .iadd, 1, 0, [], [], []),
  (9, .istore 4, 2, 4, [], [], []),
  (11, .aload_n 0, 1, 0, [], [], []),
  (12, .iload_n 1, 1, 1, [], [], []),
  (13, .invokevirtual 199, 3, 180, [1, 1], [10], []),
  (16, .istore 5, 2, 5, [], [], []),
  (18, .iload 5, 2, 5, [], [], []),
  (20, .iload_n 2, 1, 2, [], [], []),
  (21, .if_icmp .le 31, 3, 52, [], [], []),
  (24, .aload_n 0, 1, 0, [], [], []),
  (25, .getfield 98, 3, 2, [], [10, 14], []),
  (28, .iload 4, 2, 4, [], [], []),
  (30, .iload 5, 2, 5, [], [], []),
  (32, .iadd, 1, 0, [], [], []),
  (33, .aload_n 0, 1, 0, [], [], []),
  (34, .getfield 98, 3, 2, [], [10, 14], []),
  (37, .iload 4, 2, 4, [], [], []),
  (39, .iload 5, 2, 5, [], [], []),
  (41, .iadd, 1, 0, [], [], []),
  (42, .iconst 1, 1, 0, [], [], []),
  (43, .isub, 1, 0, [], [], []),
  (44, .iaload, 1, 0, [], [], []),
  (45, .iastore, 1, 0, [], [], []),
  (46, .iinc 5 (-1), 3, 5, [], [], []),
  (49, .goto (-31), 3, 18, [], [], []),
  (52, .aload_n 0, 1, 0, [], [], []),
  (53, .getfield 98, 3, 2, [], [10, 14], []),
  (56, .iload 4, 2, 4, [], [], []),
  (58, .iload_n 2, 1, 2, [], [], []),
  (59, .iadd, 1, 0, [], [], []),
  (60, .iload_n 3, 1, 3, [], [], []),
  (61, .iastore, 1, 0, [], [], []),
  (62, .aload_n 0, 1, 0, [], [], []),
  (63, .getfield 98, 3, 2, [], [10, 14], []),
  (66, .sipush 2611, 3, 0, [], [], []),
  (69, .iload_n 1, 1, 1, [], [], []),
  (70, .iadd, 1, 0, [], [], []),
  (71, .iaload, 1, 0, [], [], []),
  (72, .ifCond .ne 14, 3, 86, [], [], []),
  (75, .aload_n 0, 1, 0, [], [], []),
  (76, .getfield 98, 3, 2, [], [10, 14], []),
  (79, .sipush 2611, 3, 0, [], [], []),
  (82, .iload_n 1, 1, 1, [], [], []),
  (83, .iadd, 1, 0, [], [], []),
  (84, .iconst 1, 1, 0, [], [], []),
  (85, .iastore, 1, 0, [], [], []),
  (86, .iload_n 2, 1, 2, [], [], []),
  (87, .ifCond .ne 7, 3, 94, [], [], []),
  (90, .iconst 0, 1, 0, [], [], []),
  (91, .goto 11, 3, 102, [], [], []),
  (94, .aload_n 0, 1, 0, [], [], []),
  (95, .iload_n 1, 1, 1, [], [], []),
  (96, .iload_n 2, 1, 2, [], [], []),
  (97, .iconst 1, 1, 0, [], [], []),
  (98, .isub, 1, 0, [], [], []),
  (99, .invokevirtual 202, 3, 183, [1, 2], [10], []),
  (102, .istore 5, 2, 5, [], [], []),
  (104, .aload_n 0, 1, 0, [], [], []),
  (105, .getfield 98, 3, 2, [], [10, 14], []),
  (108, .sipush 2607, 3, 0, [], [], []),
  (111, .iload_n 1, 1, 1, [], [], []),
  (112, .iadd, 1, 0, [], [], []),
  (113, .dup2, 1, 0, [], [], []),
  (114, .iaload, 1, 0, [], [], []),
  (115, .iconst 1, 1, 0, [], [], []),
  (116, .iadd, 1, 0, [], [], []),
  (117, .iastore, 1, 0, [], [], []),
  (118, .aload_n 0, 1, 0, [], [], []),
  (119, .getfield 98, 3, 2, [], [10, 14], []),
  (122, .aload_n 0, 1, 0, [], [], []),
  (123, .iload_n 1, 1, 1, [], [], []),
  (124, .iload 5, 2, 5, [], [], []),
  (126, .invokevirtual 195, 3, 182, [1, 2], [10], []),
  (129, .dup2, 1, 0, [], [], []),
  (130, .iaload, 1, 0, [], [], []),
  (131, .iconst 1, 1, 0, [], [], []),
  (132, .iadd, 1, 0, [], [], []),
  (133, .iastore, 1, 0, [], [], []),
  (134, .aload_n 0, 1, 0, [], [], []),
  (135, .getfield 98, 3, 2, [], [10, 14], []),
  (138, .aload_n 0, 1, 0, [], [], []),
  (139, .iload_n 1, 1, 1, [], [], []),
  (140, .iload 5, 2, 5, [], [], []),
  (142, .invokevirtual 195, 3, 182, [1, 2], [10], []),
  (145, .iaload, 1, 0, [], [], []),
  (146, .iconst 2, 1, 0, [], [], []),
  (147, .aload_n 0, 1, 0, [], [], []),
  (148, .getfield 98, 3, 2, [], [10, 14], []),
  (151, .iconst 1, 1, 0, [], [], []),
  (152, .iaload, 1, 0, [], [], []),
  (153, .imul, 1, 0, [], [], []),
  (154, .if_icmp .le 10, 3, 164, [], [], []),
  (157, .aload_n 0, 1, 0, [], [], []),
  (158, .iload_n 1, 1, 1, [], [], []),
  (159, .iload 5, 2, 5, [], [], []),
  (161, .invokevirtual 205, 3, 184, [0, 2], [10], []),
  (164, .return_, 1, 0, [], [], [])], [(18, [true, true, true, true, true, true]), (102, [true, true, false, false, false, false])])
def mX12_joinLeaves : sM := (4, 0, [
  (0, .aload_n 0, 1, 0, [], [], []),
  (1, .getfield 98, 3, 2, [], [10, 14], []),
  (4, .aload_n 0, 1, 0, [], [], []),
  (5, .iload_n 1, 1, 1, [], [], []),
  (6, .iload_n 2, 1, 2, [], [], []),
  (7, .invokevirtual 195, 3, 182, [1, 2], [10], []),
  (10, .dup2, 1, 0, [], [], []),
  (11, .iaload, 1, 0, [], [], []),
  (12, .aload_n 0, 1, 0, [], [], []),
  (13, .getfield 98, 3, 2, [], [10, 14], []),
  (16, .aload_n 0, 1, 0, [], [], []),
  (17, .iload_n 1, 1, 1, [], [], []),
  (18, .iload_n 2, 1, 2, [], [], []),
  (19, .iconst 1, 1, 0, [], [], []),
  (20, .iadd, 1, 0, [], [], []),
  (21, .invokevirtual 195, 3, 182, [1, 2], [10], []),
  (24, .iaload, 1, 0, [], [], []),
  (25, .iadd, 1, 0, [], [], []),
  (26, .iastore, 1, 0, [], [], []),
  (27, .aload_n 0, 1, 0, [], [], []),
  (28, .getfield 98, 3, 2, [], [10, 14], []),
  (31, .sipush 2611, 3, 0, [], [], []),
  (34, .iload_n 1, 1, 1, [], [], []),
  (35, .iadd, 1, 0, [], [], []),
  (36, .dup2, 1, 0, [], [], []),
  (37, .iaload, 1, 0, [], [], []),
  (38, .iconst 1, 1, 0, [], [], []),
  (39, .isub, 1, 0, [], [], []),
  (40, .iastore, 1, 0, [], [], []),
  (41, .iload_n 2, 1, 2, [], [], []),
  (42, .iconst 1, 1, 0, [], [], []),
  (43, .iadd, 1, 0, [], [], []),
  (44, .istore_n 3, 1, 3, [], [], []),
  (45, .iload_n 3, 1, 3, [], [], []),
  (46, .aload_n 0, 1, 0, [], [], []),
  (47, .getfield 98, 3, 2, [], [10, 14], []),
  (50, .sipush 2611, 3, 0, [], [], []),
  (53, .iload_n 1, 1, 1, [], [], []),
  (54, .iadd, 1, 0, [], [], []),
  (55, .iaload, 1, 0, [], [], []),
  (56, .if_icmp .ge 33, 3, 89, [], [], []),
  (59, .aload_n 0, 1, 0, [], [], []),
  (60, .getfield 98, 3, 2, [], [10, 14], []),
  (63, .aload_n 0, 1, 0, [], [], []),
  (64, .iload_n 1, 1, 1, [], [], []),
  (65, .iload_n 3, 1, 3, [], [], []),
  (66, .invokevirtual 195, 3, 182, [1, 2], [10], []),
  (69, .aload_n 0, 1, 0, [], [], []),
  (70, .getfield 98, 3, 2, [], [10, 14], []),
  (73, .aload_n 0, 1, 0, [], [], []),
  (74, .iload_n 1, 1, 1, [], [], []),
  (75, .iload_n 3, 1, 3, [], [], []),
  (76, .iconst 1, 1, 0, [], [], []),
  (77, .iadd, 1, 0, [], [], []),
  (78, .invokevirtual 195, 3, 182, [1, 2], [10], []),
  (81, .iaload, 1, 0, [], [], []),
  (82, .iastore, 1, 0, [], [], []),
  (83, .iinc 3 1, 3, 3, [], [], []),
  (86, .goto (-41), 3, 45, [], [], []),
  (89, .aload_n 0, 1, 0, [], [], []),
  (90, .getfield 98, 3, 2, [], [10, 14], []),
  (93, .aload_n 0, 1, 0, [], [], []),
  (94, .iload_n 1, 1, 1, [], [], []),
  (95, .aload_n 0, 1, 0, [], [], []),
  (96, .getfield 98, 3, 2, [], [10, 14], []),
  (99, .sipush 2611, 3, 0, [], [], []),
  (102, .iload_n 1, 1, 1, [], [], []),
  (103, .iadd, 1, 0, [], [], []),
  (104, .iaload, 1, 0, [], [], []),
  (105, .invokevirtual 195, 3, 182, [1, 2], [10], []),
  (108, .iconst 0, 1, 0, [], [], []),
  (109, .iastore, 1, 0, [], [], []),
  (110, .aload_n 0, 1, 0, [], [], []),
  (111, .getfield 98, 3, 2, [], [10, 14], []),
  (114, .aload_n 0, 1, 0, [], [], []),
  (115, .iload_n 1, 1, 1, [], [], []),
  (116, .iload_n 2, 1, 2, [], [], []),
  (117, .invokevirtual 195, 3, 182, [1, 2], [10], []),
  (120, .iaload, 1, 0, [], [], []),
  (121, .iconst 2, 1, 0, [], [], []),
  (122, .aload_n 0, 1, 0, [], [], []),
  (123, .getfield 98, 3, 2, [], [10, 14], []),
  (126, .iconst 1, 1, 0, [], [], []),
  (127, .iaload, 1, 0, [], [], []),
  (128, .imul, 1, 0, [], [], []),
  (129, .if_icmp .le 9, 3, 138, [], [], []),
  (132, .aload_n 0, 1, 0, [], [], []),
  (133, .iload_n 1, 1, 1, [], [], []),
  (134, .iload_n 2, 1, 2, [], [], []),
  (135, .invokevirtual 205, 3, 184, [0, 2], [10], []),
  (138, .return_, 1, 0, [], [], [])], [(45, [true, true, true, true])])
def mX12_takeBit : sM := (6, 0, [
  (0, .sipush 3420, 3, 0, [], [], []),
  (3, .sipush 600, 3, 0, [], [], []),
  (6, .iload_n 1, 1, 1, [], [], []),
  (7, .imul, 1, 0, [], [], []),
  (8, .iadd, 1, 0, [], [], []),
  (9, .istore_n 3, 1, 3, [], [], []),
  (10, .aload_n 0, 1, 0, [], [], []),
  (11, .iload_n 1, 1, 1, [], [], []),
  (12, .iload_n 2, 1, 2, [], [], []),
  (13, .invokevirtual 202, 3, 183, [1, 2], [10], []),
  (16, .istore 4, 2, 4, [], [], []),
  (18, .aload_n 0, 1, 0, [], [], []),
  (19, .getfield 98, 3, 2, [], [10, 14], []),
  (22, .sipush 2607, 3, 0, [], [], []),
  (25, .iload_n 1, 1, 1, [], [], []),
  (26, .iadd, 1, 0, [], [], []),
  (27, .dup2, 1, 0, [], [], []),
  (28, .iaload, 1, 0, [], [], []),
  (29, .iconst 1, 1, 0, [], [], []),
  (30, .isub, 1, 0, [], [], []),
  (31, .iastore, 1, 0, [], [], []),
  (32, .iload_n 2, 1, 2, [], [], []),
  (33, .istore 5, 2, 5, [], [], []),
  (35, .iload 5, 2, 5, [], [], []),
  (37, .aload_n 0, 1, 0, [], [], []),
  (38, .iload_n 1, 1, 1, [], [], []),
  (39, .invokevirtual 199, 3, 180, [1, 1], [10], []),
  (42, .if_icmp .ge 29, 3, 71, [], [], []),
  (45, .aload_n 0, 1, 0, [], [], []),
  (46, .getfield 98, 3, 2, [], [10, 14], []),
  (49, .iload_n 3, 1, 3, [], [], []),
  (50, .iload 5, 2, 5, [], [], []),
  (52, .iadd, 1, 0, [], [], []),
  (53, .aload_n 0, 1, 0, [], [], []),
  (54, .getfield 98, 3, 2, [], [10, 14], []),
  (57, .iload_n 3, 1, 3, [], [], []),
  (58, .iload 5, 2, 5, [], [], []),
  (60, .iadd, 1, 0, [], [], []),
  (61, .iconst 1, 1, 0, [], [], []),
  (62, .iadd, 1, 0, [], [], []),
  (63, .iaload, 1, 0, [], [], []),
  (64, .iastore, 1, 0, [], [], []),
  (65, .iinc 5 1, 3, 5, [], [], []),
  (68, .goto (-33), 3, 35, [], [], []),
  (71, .aload_n 0, 1, 0, [], [], []),
  (72, .getfield 98, 3, 2, [], [10, 14], []),
  (75, .iload_n 3, 1, 3, [], [], []),
  (76, .aload_n 0, 1, 0, [], [], []),
  (77, .iload_n 1, 1, 1, [], [], []),
  (78, .invokevirtual 199, 3, 180, [1, 1], [10], []),
  (81, .iadd, 1, 0, [], [], []),
  (82, .iconst 0, 1, 0, [], [], []),
  (83, .iastore, 1, 0, [], [], []),
  (84, .aload_n 0, 1, 0, [], [], []),
  (85, .getfield 98, 3, 2, [], [10, 14], []),
  (88, .aload_n 0, 1, 0, [], [], []),
  (89, .iload_n 1, 1, 1, [], [], []),
  (90, .iload 4, 2, 4, [], [], []),
  (92, .invokevirtual 195, 3, 182, [1, 2], [10], []),
  (95, .dup2, 1, 0, [], [], []),
  (96, .iaload, 1, 0, [], [], []),
  (97, .iconst 1, 1, 0, [], [], []),
  (98, .isub, 1, 0, [], [], []),
  (99, .iastore, 1, 0, [], [], []),
  (100, .aload_n 0, 1, 0, [], [], []),
  (101, .getfield 98, 3, 2, [], [10, 14], []),
  (104, .sipush 2611, 3, 0, [], [], []),
  (107, .iload_n 1, 1, 1, [], [], []),
  (108, .iadd, 1, 0, [], [], []),
  (109, .iaload, 1, 0, [], [], []),
  (110, .iconst 1, 1, 0, [], [], []),
  (111, .if_icmp .ne 30, 3, 141, [], [], []),
  (114, .aload_n 0, 1, 0, [], [], []),
  (115, .getfield 98, 3, 2, [], [10, 14], []),
  (118, .aload_n 0, 1, 0, [], [], []),
  (119, .iload_n 1, 1, 1, [], [], []),
  (120, .iload 4, 2, 4, [], [], []),
  (122, .invokevirtual 195, 3, 182, [1, 2], [10], []),
  (125, .iaload, 1, 0, [], [], []),
  (126, .ifCond .ne 14, 3, 140, [], [], []),
  (129, .aload_n 0, 1, 0, [], [], []),
  (130, .getfield 98, 3, 2, [], [10, 14], []),
  (133, .sipush 2611, 3, 0, [], [], []),
  (136, .iload_n 1, 1, 1, [], [], []),
  (137, .iadd, 1, 0, [], [], []),
  (138, .iconst 0, 1, 0, [], [], []),
  (139, .iastore, 1, 0, [], [], []),
  (140, .return_, 1, 0, [], [], []),
  (141, .aload_n 0, 1, 0, [], [], []),
  (142, .getfield 98, 3, 2, [], [10, 14], []),
  (145, .aload_n 0, 1, 0, [], [], []),
  (146, .iload_n 1, 1, 1, [], [], []),
  (147, .iload 4, 2, 4, [], [], []),
  (149, .invokevirtual 195, 3, 182, [1, 2], [10], []),
  (152, .iaload, 1, 0, [], [], []),
  (153, .aload_n 0, 1, 0, [], [], []),
  (154, .getfield 98, 3, 2, [], [10, 14], []),
  (157, .iconst 1, 1, 0, [], [], []),
  (158, .iaload, 1, 0, [], [], []),
  (159, .if_icmp .ge 34, 3, 193, [], [], []),
  (162, .aload_n 0, 1, 0, [], [], []),
  (163, .iload_n 1, 1, 1, [], [], []),
  (164, .iload 4, 2, 4, [], [], []),
  (166, .aload_n 0, 1, 0, [], [], []),
  (167, .getfield 98, 3, 2, [], [10, 14], []),
  (170, .sipush 2611, 3, 0, [], [], []),
  (173, .iload_n 1, 1, 1, [], [], []),
  (174, .iadd, 1, 0, [], [], []),
  (175, .iaload, 1, 0, [], [], []),
  (176, .iconst 1, 1, 0, [], [], []),
  (177, .isub, 1, 0, [], [], []),
  (178, .if_icmp .ge 8, 3, 186, [], [], []),
  (181, .iload 4, 2, 4, [], [], []),
  (183, .goto 7, 3, 190, [], [], []),
  (186, .iload 4, 2, 4, [], [], []),
  (188, .iconst 1, 1, 0, [], [], []),
  (189, .isub, 1, 0, [], [], []),
  (190, .invokevirtual 209, 3, 186, [0, 2], [10], []),
  (193, .return_, 1, 0, [], [], [])], [(35, [true, true, false, true, true, true])])
def mX12_isRow : sM := (2, 4, [
  (0, .iload_n 1, 1, 1, [], [], []),
  (1, .iconst 0, 1, 0, [], [], []),
  (2, .aload_n 0, 1, 0, [], [], []),
  (3, .getfield 98, 3, 2, [], [10, 14], []),
  (6, .iconst 0, 1, 0, [], [], []),
  (7, .iaload, 1, 0, [], [], []),
  (8, .iconst 1, 1, 0, [], [], []),
  (9, .isub, 1, 0, [], [], []),
  (10, .invokestatic 75, 3, 155, [4, 3], [], []),
  (13, .ireturn, 1, 0, [], [], [])], [])
def mX12_isBit : sM := (2, 4, [
  (0, .iload_n 1, 1, 1, [], [], []),
  (1, .iconst 0, 1, 0, [], [], []),
  (2, .iconst 1, 1, 0, [], [], []),
  (3, .invokestatic 75, 3, 155, [4, 3], [], []),
  (6, .ireturn, 1, 0, [], [], [])], [])
def mX12_isThere : sM := (3, 4, [
  (0, .iload_n 2, 1, 2, [], [], []),
  (1, .iconst 0, 1, 0, [], [], []),
  (2, .aload_n 0, 1, 0, [], [], []),
  (3, .iload_n 1, 1, 1, [], [], []),
  (4, .invokevirtual 199, 3, 180, [1, 1], [10], []),
  (7, .iconst 1, 1, 0, [], [], []),
  (8, .isub, 1, 0, [], [], []),
  (9, .invokestatic 75, 3, 155, [4, 3], [], []),
  (12, .ireturn, 1, 0, [], [], [])], [])
def mX12_onesIn : sM := (6, 1, [
  (0, .iconst 0, 1, 0, [], [], []),
  (1, .istore 4, 2, 4, [], [], []),
  (3, .iload_n 2, 1, 2, [], [], []),
  (4, .istore 5, 2, 5, [], [], []),
  (6, .iload 5, 2, 5, [], [], []),
  (8, .iload_n 3, 1, 3, [], [], []),
  (9, .if_icmp .ge 21, 3, 30, [], [], []),
  (12, .iload 4, 2, 4, [], [], []),
  (14, .aload_n 0, 1, 0, [], [], []),
  (15, .iload_n 1, 1, 1, [], [], []),
  (16, .iload 5, 2, 5, [], [], []),
  (18, .invokevirtual 212, 3, 181, [1, 2], [10], []),
  (21, .iadd, 1, 0, [], [], []),
  (22, .istore 4, 2, 4, [], [], []),
  (24, .iinc 5 1, 3, 5, [], [], []),
  (27, .goto (-21), 3, 6, [], [], []),
  (30, .iload 4, 2, 4, [], [], []),
  (32, .ireturn, 1, 0, [], [], [])], [(6, [true, true, false, true, true, true])])
def mX12_size : sM := (2, 1, [
  (0, .aload_n 0, 1, 0, [], [], []),
  (1, .iconst 0, 1, 0, [], [], []),
  (2, .putfield 1, 3, 0, [], [10, 0], []),
  (5, .aload_n 0, 1, 0, [], [], []),
  (6, .iload_n 1, 1, 1, [], [], []),
  (7, .invokevirtual 215, 3, 188, [4, 1], [10], []),
  (10, .ifCond .eq 11, 3, 21, [], [], []),
  (13, .aload_n 0, 1, 0, [], [], []),
  (14, .iload_n 1, 1, 1, [], [], []),
  (15, .invokevirtual 199, 3, 180, [1, 1], [10], []),
  (18, .goto 4, 3, 22, [], [], []),
  (21, .iconst (-1), 1, 0, [], [], []),
  (22, .ireturn, 1, 0, [], [], [])], [])
def mX12_bit : sM := (3, 1, [
  (0, .aload_n 0, 1, 0, [], [], []),
  (1, .iconst 0, 1, 0, [], [], []),
  (2, .putfield 1, 3, 0, [], [10, 0], []),
  (5, .aload_n 0, 1, 0, [], [], []),
  (6, .iload_n 1, 1, 1, [], [], []),
  (7, .invokevirtual 215, 3, 188, [4, 1], [10], []),
  (10, .ifCond .eq 21, 3, 31, [], [], []),
  (13, .aload_n 0, 1, 0, [], [], []),
  (14, .iload_n 1, 1, 1, [], [], []),
  (15, .iload_n 2, 1, 2, [], [], []),
  (16, .invokevirtual 218, 3, 190, [4, 2], [10], []),
  (19, .ifCond .eq 12, 3, 31, [], [], []),
  (22, .aload_n 0, 1, 0, [], [], []),
  (23, .iload_n 1, 1, 1, [], [], []),
  (24, .iload_n 2, 1, 2, [], [], []),
  (25, .invokevirtual 212, 3, 181, [1, 2], [10], []),
  (28, .goto 4, 3, 32, [], [], []),
  (31, .iconst (-1), 1, 0, [], [], []),
  (32, .ireturn, 1, 0, [], [], [])], [])
def mX12_rank : sM := (5, 1, [
  (0, .aload_n 0, 1, 0, [], [], []),
  (1, .iconst 0, 1, 0, [], [], []),
  (2, .putfield 1, 3, 0, [], [10, 0], []),
  (5, .aload_n 0, 1, 0, [], [], []),
  (6, .iload_n 1, 1, 1, [], [], []),
  (7, .invokevirtual 215, 3, 188, [4, 1], [10], []),
  (10, .ifCond .eq 24, 3, 34, [], [], []),
  (13, .aload_n 0, 1, 0, [], [], []),
  (14, .iload_n 3, 1, 3, [], [], []),
  (15, .invokevirtual 221, 3, 189, [4, 1], [10], []),
  (18, .ifCond .eq 16, 3, 34, [], [], []),
  (21, .iload_n 2, 1, 2, [], [], []),
  (22, .iconst 0, 1, 0, [], [], []),
  (23, .aload_n 0, 1, 0, [], [], []),
  (24, .iload_n 1, 1, 1, [], [], []),
  (25, .invokevirtual 199, 3, 180, [1, 1], [10], []),
  (28, .invokestatic 75, 3, 155, [4, 3], [], []),
  (31, .ifCond .ne 5, 3, 36, [], [], []),
  (34, .iconst (-1), 1, 0, [], [], []),
  (35, .ireturn, 1, 0, [], [], []),
  (36, .aload_n 0, 1, 0, [], [], []),
  (37, .iload_n 1, 1, 1, [], [], []),
  (38, .iconst 0, 1, 0, [], [], []),
  (39, .iload_n 2, 1, 2, [], [], []),
  (40, .invokevirtual 224, 3, 191, [1, 3], [10], []),
  (43, .istore 4, 2, 4, [], [], []),
  (45, .iload_n 3, 1, 3, [], [], []),
  (46, .iconst 1, 1, 0, [], [], []),
  (47, .if_icmp .ne 8, 3, 55, [], [], []),
  (50, .iload 4, 2, 4, [], [], []),
  (52, .goto 7, 3, 59, [], [], []),
  (55, .iload_n 2, 1, 2, [], [], []),
  (56, .iload 4, 2, 4, [], [], []),
  (58, .isub, 1, 0, [], [], []),
  (59, .ireturn, 1, 0, [], [], [])], [])
def mX12_select : sM := (6, 1, [
  (0, .aload_n 0, 1, 0, [], [], []),
  (1, .iconst 0, 1, 0, [], [], []),
  (2, .putfield 1, 3, 0, [], [10, 0], []),
  (5, .aload_n 0, 1, 0, [], [], []),
  (6, .iload_n 1, 1, 1, [], [], []),
  (7, .invokevirtual 215, 3, 188, [4, 1], [10], []),
  (10, .ifCond .eq 15, 3, 25, [], [], []),
  (13, .aload_n 0, 1, 0, [], [], []),
  (14, .iload_n 3, 1, 3, [], [], []),
  (15, .invokevirtual 221, 3, 189, [4, 1], [10], []),
  (18, .ifCond .eq 7, 3, 25, [], [], []),
  (21, .iload_n 2, 1, 2, [], [], []),
  (22, .ifCond .ge 5, 3, 27, [], [], []),
  (25, .iconst (-1), 1, 0, [], [], []),
  (26, .ireturn, 1, 0, [], [], []),
  (27, .iconst 0, 1, 0, [], [], []),
  (28, .istore 4, 2, 4, [], [], []),
  (30, .iconst 0, 1, 0, [], [], []),
  (31, .istore 5, 2, 5, [], [], []),
  (33, .iload 5, 2, 5, [], [], []),
  (35, .aload_n 0, 1, 0, [], [], []),
  (36, .iload_n 1, 1, 1, [], [], []),
  (37, .invokevirtual 199, 3, 180, [1, 1], [10], []),
  (40, .if_icmp .ge 35, 3, 75, [], [], []),
  (43, .aload_n 0, 1, 0, [], [], []),
  (44, .iload_n 1, 1, 1, [], [], []),
  (45, .iload 5, 2, 5, [], [], []),
  (47, .invokevirtual 212, 3, 181, [1, 2], [10], []),
  (50, .iload_n 3, 1, 3, [], [], []),
  (51, .if_icmp .eq 6, 3, 57, [], [], []),
  (54, .goto 15, 3, 69, [], [], []),
  (57, .iload 4, 2, 4, [], [], []),
  (59, .iload_n 2, 1, 2, [], [], []),
  (60, .if_icmp .ne 6, 3, 66, [], [], []),
  (63, .iload 5, 2, 5, [], [], []),
  (65, .ireturn, 1, 0, [], [], []),
  (66, .iinc 4 1, 3, 4, [], [], []),
  (69, .iinc 5 1, 3, 5, [], [], []),
  (72, .goto (-39), 3, 33, [], [], []),
  (75, .iconst (-1), 1, 0, [], [], []),
  (76, .ireturn, 1, 0, [], [], [])], [(33, [true, true, true, true, true, true])])
def mX12_find : sM := (5, 1, [
  (0, .aload_n 0, 1, 0, [], [], []),
  (1, .iconst 0, 1, 0, [], [], []),
  (2, .putfield 1, 3, 0, [], [10, 0], []),
  (5, .aload_n 0, 1, 0, [], [], []),
  (6, .iload_n 1, 1, 1, [], [], []),
  (7, .invokevirtual 215, 3, 188, [4, 1], [10], []),
  (10, .ifCond .eq 15, 3, 25, [], [], []),
  (13, .aload_n 0, 1, 0, [], [], []),
  (14, .iload_n 3, 1, 3, [], [], []),
  (15, .invokevirtual 221, 3, 189, [4, 1], [10], []),
  (18, .ifCond .eq 7, 3, 25, [], [], []),
  (21, .iload_n 2, 1, 2, [], [], []),
  (22, .ifCond .ge 5, 3, 27, [], [], []),
  (25, .iconst (-1), 1, 0, [], [], []),
  (26, .ireturn, 1, 0, [], [], []),
  (27, .iload_n 2, 1, 2, [], [], []),
  (28, .istore 4, 2, 4, [], [], []),
  (30, .iload 4, 2, 4, [], [], []),
  (32, .aload_n 0, 1, 0, [], [], []),
  (33, .iload_n 1, 1, 1, [], [], []),
  (34, .invokevirtual 199, 3, 180, [1, 1], [10], []),
  (37, .if_icmp .ge 23, 3, 60, [], [], []),
  (40, .aload_n 0, 1, 0, [], [], []),
  (41, .iload_n 1, 1, 1, [], [], []),
  (42, .iload 4, 2, 4, [], [], []),
  (44, .invokevirtual 212, 3, 181, [1, 2], [10], []),
  (47, .iload_n 3, 1, 3, [], [], []),
  (48, .if_icmp .ne 6, 3, 54, [], [], []),
  (51, .iload 4, 2, 4, [], [], []),
  (53, .ireturn, 1, 0, [], [], []),
  (54, .iinc 4 1, 3, 4, [], [], []),
  (57, .goto (-27), 3, 30, [], [], []),
  (60, .iconst (-1), 1, 0, [], [], []),
  (61, .ireturn, 1, 0, [], [], [])], [(30, [true, true, false, true, true])])
def mX12_runsOf : sM := (4, 1, [
  (0, .iconst 0, 1, 0, [], [], []),
  (1, .istore_n 2, 1, 2, [], [], []),
  (2, .iconst 0, 1, 0, [], [], []),
  (3, .istore_n 3, 1, 3, [], [], []),
  (4, .iload_n 3, 1, 3, [], [], []),
  (5, .aload_n 0, 1, 0, [], [], []),
  (6, .iload_n 1, 1, 1, [], [], []),
  (7, .invokevirtual 199, 3, 180, [1, 1], [10], []),
  (10, .if_icmp .ge 33, 3, 43, [], [], []),
  (13, .iload_n 3, 1, 3, [], [], []),
  (14, .ifCond .eq 20, 3, 34, [], [], []),
  (17, .aload_n 0, 1, 0, [], [], []),
  (18, .iload_n 1, 1, 1, [], [], []),
  (19, .iload_n 3, 1, 3, [], [], []),
  (20, .invokevirtual 212, 3, 181, [1, 2], [10], []),
  (23, .aload_n 0, 1, 0, [], [], []),
  (24, .iload_n 1, 1, 1, [], [], []),
  (25, .iload_n 3, 1, 3, [], [], []),
  (26, .iconst 1, 1, 0, [], [], []),
  (27, .isub, 1, 0, [], [], []),
  (28, .invokevirtual 212, 3, 181, [1, 2], [10], []),
  (31, .if_icmp .eq 6, 3, 37, [], [], []),
  (34, .iinc 2 1, 3, 2, [], [], []),
  (37, .iinc 3 1, 3, 3, [], [], []),
  (40, .goto (-36), 3, 4, [], [], []),
  (43, .iload_n 2, 1, 2, [], [], []),
  (44, .ireturn, 1, 0, [], [], [])], [(4, [true, true, true, true])])
def mX12_runs : sM := (2, 1, [
  (0, .aload_n 0, 1, 0, [], [], []),
  (1, .iconst 0, 1, 0, [], [], []),
  (2, .putfield 1, 3, 0, [], [10, 0], []),
  (5, .aload_n 0, 1, 0, [], [], []),
  (6, .iload_n 1, 1, 1, [], [], []),
  (7, .invokevirtual 215, 3, 188, [4, 1], [10], []),
  (10, .ifCond .eq 11, 3, 21, [], [], []),
  (13, .aload_n 0, 1, 0, [], [], []),
  (14, .iload_n 1, 1, 1, [], [], []),
  (15, .invokevirtual 228, 3, 197, [1, 1], [10], []),
  (18, .goto 4, 3, 22, [], [], []),
  (21, .iconst (-1), 1, 0, [], [], []),
  (22, .ireturn, 1, 0, [], [], [])], [])
def mX12_longest : sM := (6, 1, [
  (0, .aload_n 0, 1, 0, [], [], []),
  (1, .iconst 0, 1, 0, [], [], []),
  (2, .putfield 1, 3, 0, [], [10, 0], []),
  (5, .aload_n 0, 1, 0, [], [], []),
  (6, .iload_n 1, 1, 1, [], [], []),
  (7, .invokevirtual 215, 3, 188, [4, 1], [10], []),
  (10, .ifCond .eq 11, 3, 21, [], [], []),
  (13, .aload_n 0, 1, 0, [], [], []),
  (14, .iload_n 2, 1, 2, [], [], []),
  (15, .invokevirtual 221, 3, 189, [4, 1], [10], []),
  (18, .ifCond .ne 5, 3, 23, [], [], []),
  (21, .iconst (-1), 1, 0, [], [], []),
  (22, .ireturn, 1, 0, [], [], []),
  (23, .iconst 0, 1, 0, [], [], []),
  (24, .istore_n 3, 1, 3, [], [], []),
  (25, .iconst 0, 1, 0, [], [], []),
  (26, .istore 4, 2, 4, [], [], []),
  (28, .iconst 0, 1, 0, [], [], []),
  (29, .istore 5, 2, 5, [], [], []),
  (31, .iload 5, 2, 5, [], [], []),
  (33, .aload_n 0, 1, 0, [], [], []),
  (34, .iload_n 1, 1, 1, [], [], []),
  (35, .invokevirtual 199, 3, 180, [1, 1], [10], []),
  (38, .if_icmp .ge 39, 3, 77, [], [], []),
  (41, .aload_n 0, 1, 0, [], [], []),
  (42, .iload_n 1, 1, 1, [], [], []),
  (43, .iload 5, 2, 5, [], [], []),
  (45, .invokevirtual 212, 3, 181, [1, 2], [10], []),
  (48, .iload_n 2, 1, 2, [], [], []),
  (49, .if_icmp .ne 10, 3, 59, [], [], []),
  (52, .iload 4, 2, 4, [], [], []),
  (54, .iconst 1, 1, 0, [], [], []),
  (55, .iadd, 1, 0, [], [], []),
  (56, .goto 4, 3, 60, [], [], []),
  (59, .iconst 0, 1, 0, [], [], []),
  (60, .istore 4, 2, 4, [], [], []),
  (62, .iload 4, 2, 4, [], [], []),
  (64, .iload_n 3, 1, 3, [], [], []),
  (65, .if_icmp .le 6, 3, 71, [], [], []),
  (68, .iload 4, 2, 4, [], [], []),
  (70, .istore_n 3, 1, 3, [], [], []),
  (71, .iinc 5 1, 3, 5, [], [], []),
  (74, .goto (-43), 3, 31, [], [], []),
  (77, .iload_n 3, 1, 3, [], [], []),
  (78, .ireturn, 1, 0, [], [], [])], [(31, [true, true, true, true, true, true])])
def mX12_word : sM := (5, 1, [
  (0, .aload_n 0, 1, 0, [], [], []),
  (1, .iconst 0, 1, 0, [], [], []),
  (2, .putfield 1, 3, 0, [], [10, 0], []),
  (5, .aload_n 0, 1, 0, [], [], []),
  (6, .iload_n 1, 1, 1, [], [], []),
  (7, .invokevirtual 215, 3, 188, [4, 1], [10], []),
  (10, .ifCond .eq 16, 3, 26, [], [], []),
  (13, .iload_n 2, 1, 2, [], [], []),
  (14, .iconst 0, 1, 0, [], [], []),
  (15, .aload_n 0, 1, 0, [], [], []),
  (16, .iload_n 1, 1, 1, [], [], []),
  (17, .invokevirtual 199, 3, 180, [1, 1], [10], []),
  (20, .invokestatic 75, 3, 155, [4, 3], [], []),
  (23, .ifCond .ne 8, 3, 31, [], [], []),
  (26, .aload_n 0, 1, 0, [], [], []),
  (27, .invokevirtual 231, 3, 150, [1, 0], [10], []),
  (30, .ireturn, 1, 0, [], [], []),
  (31, .iconst 0, 1, 0, [], [], []),
  (32, .istore_n 3, 1, 3, [], [], []),
  (33, .iload_n 2, 1, 2, [], [], []),
  (34, .istore 4, 2, 4, [], [], []),
  (36, .iload 4, 2, 4, [], [], []),
  (38, .iload_n 2, 1, 2, [], [], []),
  (39, .bipush 32, 2, 0, [], [], []),
  (41, .iadd, 1, 0, [], [], []),
  (42, .if_icmp .ge 35, 3, 77, [], [], []),
  (45, .iload_n 3, 1, 3, [], [], []),
  (46, .iconst 1, 1, 0, [], [], []),
  (47, .ishl, 1, 0, [], [], []),
  (48, .iload 4, 2, 4, [], [], []),
  (50, .aload_n 0, 1, 0, [], [], []),
  (51, .iload_n 1, 1, 1, [], [], []),
  (52, .invokevirtual 199, 3, 180, [1, 1], [10], []),
  (55, .if_icmp .ge 13, 3, 68, [], [], []),
  (58, .aload_n 0, 1, 0, [], [], []),
  (59, .iload_n 1, 1, 1, [], [], []),
  (60, .iload 4, 2, 4, [], [], []),
  (62, .invokevirtual 212, 3, 181, [1, 2], [10], []),
  (65, .goto 4, 3, 69, [], [], []),
  (68, .iconst 0, 1, 0, [], [], []),
  (69, .ior, 1, 0, [], [], []),
  (70, .istore_n 3, 1, 3, [], [], []),
  (71, .iinc 4 1, 3, 4, [], [], []),
  (74, .goto (-38), 3, 36, [], [], []),
  (77, .iload_n 3, 1, 3, [], [], []),
  (78, .ireturn, 1, 0, [], [], [])], [(36, [true, true, true, true, true])])
def mX12_leaves : sM := (2, 1, [
  (0, .aload_n 0, 1, 0, [], [], []),
  (1, .iconst 0, 1, 0, [], [], []),
  (2, .putfield 1, 3, 0, [], [10, 0], []),
  (5, .aload_n 0, 1, 0, [], [], []),
  (6, .iload_n 1, 1, 1, [], [], []),
  (7, .invokevirtual 215, 3, 188, [4, 1], [10], []),
  (10, .ifCond .eq 16, 3, 26, [], [], []),
  (13, .aload_n 0, 1, 0, [], [], []),
  (14, .getfield 98, 3, 2, [], [10, 14], []),
  (17, .sipush 2611, 3, 0, [], [], []),
  (20, .iload_n 1, 1, 1, [], [], []),
  (21, .iadd, 1, 0, [], [], []),
  (22, .iaload, 1, 0, [], [], []),
  (23, .goto 4, 3, 27, [], [], []),
  (26, .iconst (-1), 1, 0, [], [], []),
  (27, .ireturn, 1, 0, [], [], [])], [])
def mX12_leaf : sM := (6, 1, [
  (0, .aload_n 0, 1, 0, [], [], []),
  (1, .iconst 0, 1, 0, [], [], []),
  (2, .putfield 1, 3, 0, [], [10, 0], []),
  (5, .aload_n 0, 1, 0, [], [], []),
  (6, .iload_n 1, 1, 1, [], [], []),
  (7, .invokevirtual 215, 3, 188, [4, 1], [10], []),
  (10, .ifCond .eq 23, 3, 33, [], [], []),
  (13, .iload_n 2, 1, 2, [], [], []),
  (14, .iconst 0, 1, 0, [], [], []),
  (15, .aload_n 0, 1, 0, [], [], []),
  (16, .getfield 98, 3, 2, [], [10, 14], []),
  (19, .sipush 2611, 3, 0, [], [], []),
  (22, .iload_n 1, 1, 1, [], [], []),
  (23, .iadd, 1, 0, [], [], []),
  (24, .iaload, 1, 0, [], [], []),
  (25, .iconst 1, 1, 0, [], [], []),
  (26, .isub, 1, 0, [], [], []),
  (27, .invokestatic 75, 3, 155, [4, 3], [], []),
  (30, .ifCond .ne 5, 3, 35, [], [], []),
  (33, .iconst (-1), 1, 0, [], [], []),
  (34, .ireturn, 1, 0, [], [], []),
  (35, .iconst 0, 1, 0, [], [], []),
  (36, .istore 4, 2, 4, [], [], []),
  (38, .iconst 0, 1, 0, [], [], []),
  (39, .istore 5, 2, 5, [], [], []),
  (41, .iload 5, 2, 5, [], [], []),
  (43, .iload_n 2, 1, 2, [], [], []),
  (44, .if_icmp .ge 26, 3, 70, [], [], []),
  (47, .iload 4, 2, 4, [], [], []),
  (49, .aload_n 0, 1, 0, [], [], []),
  (50, .getfield 98, 3, 2, [], [10, 14], []),
  (53, .aload_n 0, 1, 0, [], [], []),
  (54, .iload_n 1, 1, 1, [], [], []),
  (55, .iload 5, 2, 5, [], [], []),
  (57, .invokevirtual 195, 3, 182, [1, 2], [10], []),
  (60, .iaload, 1, 0, [], [], []),
  (61, .iadd, 1, 0, [], [], []),
  (62, .istore 4, 2, 4, [], [], []),
  (64, .iinc 5 1, 3, 5, [], [], []),
  (67, .goto (-26), 3, 41, [], [], []),
  (70, .aload_n 0, 1, 0, [], [], []),
  (71, .getfield 98, 3, 2, [], [10, 14], []),
  (74, .aload_n 0, 1, 0, [], [], []),
  (75, .iload_n 1, 1, 1, [], [], []),
  (76, .iload_n 2, 1, 2, [], [], []),
  (77, .invokevirtual 195, 3, 182, [1, 2], [10], []),
  (80, .iaload, 1, 0, [], [], []),
  (81, .istore 5, 2, 5, [], [], []),
  (83, .iload_n 3, 1, 3, [], [], []),
  (84, .tableswitch 47 0 2 #[28, 31, 44], 28, 131, [], [], [(0, 112), (1, 115), (2, 128)]),
  (112, .iload 5, 2, 5, [], [], []),
  (114, .ireturn, 1, 0, [], [], []),
  (115, .aload_n 0, 1, 0, [], [], []),
  (116, .iload_n 1, 1, 1, [], [], []),
  (117, .iload 4, 2, 4, [], [], []),
  (119, .iload 4, 2, 4, [], [], []),
  (121, .iload 5, 2, 5, [], [], []),
  (123, .iadd, 1, 0, [], [], []),
  (124, .invokevirtual 224, 3, 191, [1, 3], [10], []),
  (127, .ireturn, 1, 0, [], [], []),
  (128, .iload 4, 2, 4, [], [], []),
  (130, .ireturn, 1, 0, [], [], []),
  (131, .iconst (-1), 1, 0, [], [], []),
  (132, .ireturn, 1, 0, [], [], [])], [(41, [true, true, true, true, true, true])])
def mX12_highOf : sM := (1, 1, [
  (0, .iload_n 0, 1, 0, [], [], []),
  (1, .iconst 2, 1, 0, [], [], []),
  (2, .if_icmp .ge 7, 3, 9, [], [], []),
  (5, .iconst 0, 1, 0, [], [], []),
  (6, .goto 13, 3, 19, [], [], []),
  (9, .iconst 1, 1, 0, [], [], []),
  (10, .iload_n 0, 1, 0, [], [], []),
  (11, .iconst 1, 1, 0, [], [], []),
  (12, .iadd, 1, 0, [], [], []),
  (13, .iconst 2, 1, 0, [], [], []),
  (14, .idiv, 1, 0, [], [], []),
  (15, .invokestatic 234, 3, 203, [1, 1], [], []),
  (18, .iadd, 1, 0, [], [], []),
  (19, .ireturn, 1, 0, [], [], [])], [])
def mX12_mixedOf : sM := (1, 1, [
  (0, .iload_n 0, 1, 0, [], [], []),
  (1, .iconst 2, 1, 0, [], [], []),
  (2, .if_icmp .ge 7, 3, 9, [], [], []),
  (5, .iconst 0, 1, 0, [], [], []),
  (6, .goto 29, 3, 35, [], [], []),
  (9, .iload_n 0, 1, 0, [], [], []),
  (10, .iconst 1, 1, 0, [], [], []),
  (11, .iadd, 1, 0, [], [], []),
  (12, .iconst 2, 1, 0, [], [], []),
  (13, .idiv, 1, 0, [], [], []),
  (14, .invokestatic 237, 3, 204, [1, 1], [], []),
  (17, .iload_n 0, 1, 0, [], [], []),
  (18, .iconst 2, 1, 0, [], [], []),
  (19, .idiv, 1, 0, [], [], []),
  (20, .invokestatic 237, 3, 204, [1, 1], [], []),
  (23, .iadd, 1, 0, [], [], []),
  (24, .iload_n 0, 1, 0, [], [], []),
  (25, .iconst 3, 1, 0, [], [], []),
  (26, .if_icmp .ne 7, 3, 33, [], [], []),
  (29, .iconst 1, 1, 0, [], [], []),
  (30, .goto 4, 3, 34, [], [], []),
  (33, .iconst 0, 1, 0, [], [], []),
  (34, .iadd, 1, 0, [], [], []),
  (35, .ireturn, 1, 0, [], [], [])], [])
def mX12_innerOf : sM := (1, 1, [
  (0, .iload_n 0, 1, 0, [], [], []),
  (1, .iconst 2, 1, 0, [], [], []),
  (2, .if_icmp .ge 7, 3, 9, [], [], []),
  (5, .iconst 0, 1, 0, [], [], []),
  (6, .goto 6, 3, 12, [], [], []),
  (9, .iload_n 0, 1, 0, [], [], []),
  (10, .iconst 1, 1, 0, [], [], []),
  (11, .isub, 1, 0, [], [], []),
  (12, .ireturn, 1, 0, [], [], [])], [])
def mX12_costOf : sM := (4, 1, [
  (0, .iconst 5, 1, 0, [], [], []),
  (1, .aload_n 0, 1, 0, [], [], []),
  (2, .getfield 98, 3, 2, [], [10, 14], []),
  (5, .sipush 2611, 3, 0, [], [], []),
  (8, .iload_n 1, 1, 1, [], [], []),
  (9, .iadd, 1, 0, [], [], []),
  (10, .iaload, 1, 0, [], [], []),
  (11, .invokestatic 240, 3, 205, [1, 1], [], []),
  (14, .imul, 1, 0, [], [], []),
  (15, .istore_n 2, 1, 2, [], [], []),
  (16, .iconst 0, 1, 0, [], [], []),
  (17, .istore_n 3, 1, 3, [], [], []),
  (18, .iload_n 3, 1, 3, [], [], []),
  (19, .aload_n 0, 1, 0, [], [], []),
  (20, .getfield 98, 3, 2, [], [10, 14], []),
  (23, .sipush 2611, 3, 0, [], [], []),
  (26, .iload_n 1, 1, 1, [], [], []),
  (27, .iadd, 1, 0, [], [], []),
  (28, .iaload, 1, 0, [], [], []),
  (29, .if_icmp .ge 31, 3, 60, [], [], []),
  (32, .iload_n 2, 1, 2, [], [], []),
  (33, .aload_n 0, 1, 0, [], [], []),
  (34, .getfield 98, 3, 2, [], [10, 14], []),
  (37, .aload_n 0, 1, 0, [], [], []),
  (38, .iload_n 1, 1, 1, [], [], []),
  (39, .iload_n 3, 1, 3, [], [], []),
  (40, .invokevirtual 195, 3, 182, [1, 2], [10], []),
  (43, .iaload, 1, 0, [], [], []),
  (44, .bipush 31, 2, 0, [], [], []),
  (46, .iadd, 1, 0, [], [], []),
  (47, .bipush 32, 2, 0, [], [], []),
  (49, .idiv, 1, 0, [], [], []),
  (50, .iconst 4, 1, 0, [], [], []),
  (51, .iadd, 1, 0, [], [], []),
  (52, .iadd, 1, 0, [], [], []),
  (53, .istore_n 2, 1, 2, [], [], []),
  (54, .iinc 3 1, 3, 3, [], [], []),
  (57, .goto (-39), 3, 18, [], [], []),
  (60, .iload_n 2, 1, 2, [], [], []),
  (61, .ireturn, 1, 0, [], [], [])], [(18, [true, true, true, true])])
def mX12_tree : sM := (4, 1, [
  (0, .aload_n 0, 1, 0, [], [], []),
  (1, .iconst 0, 1, 0, [], [], []),
  (2, .putfield 1, 3, 0, [], [10, 0], []),
  (5, .aload_n 0, 1, 0, [], [], []),
  (6, .iload_n 1, 1, 1, [], [], []),
  (7, .invokevirtual 215, 3, 188, [4, 1], [10], []),
  (10, .ifCond .ne 5, 3, 15, [], [], []),
  (13, .iconst (-1), 1, 0, [], [], []),
  (14, .ireturn, 1, 0, [], [], []),
  (15, .aload_n 0, 1, 0, [], [], []),
  (16, .getfield 98, 3, 2, [], [10, 14], []),
  (19, .sipush 2611, 3, 0, [], [], []),
  (22, .iload_n 1, 1, 1, [], [], []),
  (23, .iadd, 1, 0, [], [], []),
  (24, .iaload, 1, 0, [], [], []),
  (25, .istore_n 3, 1, 3, [], [], []),
  (26, .iload_n 2, 1, 2, [], [], []),
  (27, .tableswitch 50 0 3 #[29, 34, 39, 44], 29, 77, [], [], [(0, 56), (1, 61), (2, 66), (3, 71)]),
  (56, .iload_n 3, 1, 3, [], [], []),
  (57, .invokestatic 234, 3, 203, [1, 1], [], []),
  (60, .ireturn, 1, 0, [], [], []),
  (61, .iload_n 3, 1, 3, [], [], []),
  (62, .invokestatic 240, 3, 205, [1, 1], [], []),
  (65, .ireturn, 1, 0, [], [], []),
  (66, .iload_n 3, 1, 3, [], [], []),
  (67, .invokestatic 237, 3, 204, [1, 1], [], []),
  (70, .ireturn, 1, 0, [], [], []),
  (71, .aload_n 0, 1, 0, [], [], []),
  (72, .iload_n 1, 1, 1, [], [], []),
  (73, .invokevirtual 243, 3, 206, [1, 1], [10], []),
  (76, .ireturn, 1, 0, [], [], []),
  (77, .iconst (-1), 1, 0, [], [], []),
  (78, .ireturn, 1, 0, [], [], [])], [])
def mX12_firstBits : sM := (13, 2, [
  (0, .iload_n 1, 1, 1, [], [], []),
  (1, .i2l, 1, 0, [], [], []),
  (2, .lstore 4, 2, 4, [], [], []),
  (4, .iload_n 2, 1, 2, [], [], []),
  (5, .i2l, 1, 0, [], [], []),
  (6, .lstore 6, 2, 6, [], [], []),
  (8, .aload_n 0, 1, 0, [], [], []),
  (9, .iconst 0, 1, 0, [], [], []),
  (10, .putfield 246, 3, 0, [], [10, 26], []),
  (13, .lload 4, 2, 4, [], [], []),
  (15, .ldc2_w 249, 3, 0, [], [2], []),
  (18, .lload 6, 2, 6, [], [], []),
  (20, .lmul, 1, 0, [], [], []),
  (21, .lcmp, 1, 0, [], [], []),
  (22, .ifCond .lt 24, 3, 46, [], [], []),
  (25, .lload 6, 2, 6, [], [], []),
  (27, .ldc2_w 249, 3, 0, [], [2], []),
  (30, .lmul, 1, 0, [], [], []),
  (31, .lstore 6, 2, 6, [], [], []),
  (33, .aload_n 0, 1, 0, [], [], []),
  (34, .dup, 1, 0, [], [], []),
  (35, .getfield 246, 3, 0, [], [10, 26], []),
  (38, .iconst 1, 1, 0, [], [], []),
  (39, .iadd, 1, 0, [], [], []),
  (40, .putfield 246, 3, 0, [], [10, 26], []),
  (43, .goto (-30), 3, 13, [], [], []),
  (46, .lload 4, 2, 4, [], [], []),
  (48, .lload 6, 2, 6, [], [], []),
  (50, .lcmp, 1, 0, [], [], []),
  (51, .ifCond .ge 24, 3, 75, [], [], []),
  (54, .lload 4, 2, 4, [], [], []),
  (56, .ldc2_w 249, 3, 0, [], [2], []),
  (59, .lmul, 1, 0, [], [], []),
  (60, .lstore 4, 2, 4, [], [], []),
  (62, .aload_n 0, 1, 0, [], [], []),
  (63, .dup, 1, 0, [], [], []),
  (64, .getfield 246, 3, 0, [], [10, 26], []),
  (67, .iconst 1, 1, 0, [], [], []),
  (68, .isub, 1, 0, [], [], []),
  (69, .putfield 246, 3, 0, [], [10, 26], []),
  (72, .goto (-26), 3, 46, [], [], []),
  (75, .lconst 1, 1, 0, [], [1], []),
  (76, .lstore 8, 2, 8, [], [], []),
  (78, .lload 4, 2, 4, [], [], []),
  (80, .lload 6, 2, 6, [], [], []),
  (82, .lsub, 1, 0, [], [], []),
  (83, .lstore 10, 2, 10, [], [], []),
  (85, .iconst 1, 1, 0, [], [], []),
  (86, .istore 12, 2, 12, [], [], []),
  (88, .iload 12, 2, 12, [], [], []),
  (90, .iload_n 3, 1, 3, [], [], []),
  (91, .if_icmp .ge 49, 3, 140, [], [], []),
  (94, .lload 10, 2, 10, [], [], []),
  (96, .ldc2_w 249, 3, 0, [], [2], []),
  (99, .lmul, 1, 0, [], [], []),
  (100, .lstore 10, 2, 10, [], [], []),
  (102, .lload 8, 2, 8, [], [], []),
  (104, .ldc2_w 249, 3, 0, [], [2], []),
  (107, .lmul, 1, 0, [], [], []),
  (108, .lstore 8, 2, 8, [], [], []),
  (110, .lload 10, 2, 10, [], [], []),
  (112, .lload 6, 2, 6, [], [], []),
  (114, .lcmp, 1, 0, [], [], []),
  (115, .ifCond .ge 6, 3, 121, [], [], []),
  (118, .goto 16, 3, 134, [], [], []),
  (121, .lload 10, 2, 10, [], [], []),
  (123, .lload 6, 2, 6, [], [], []),
  (125, .lsub, 1, 0, [], [], []),
  (126, .lstore 10, 2, 10, [], [], []),
  (128, .lload 8, 2, 8, [], [], []),
  (130, .lconst 1, 1, 0, [], [1], []),
  (131, .ladd, 1, 0, [], [], []),
  (132, .lstore 8, 2, 8, [], [], []),
  (134, .iinc 12 1, 3, 12, [], [], []),
  (137, .goto (-49), 3, 88, [], [], []),
  (140, .ldc2_w 249, 3, 0, [], [2], []),
  (143, .lload 10, 2, 10, [], [], []),
  (145, .lmul, 1, 0, [], [], []),
  (146, .lload 6, 2, 6, [], [], []),
  (148, .lcmp, 1, 0, [], [], []),
  (149, .ifCond .gt 26, 3, 175, [], [], []),
  (152, .ldc2_w 249, 3, 0, [], [2], []),
  (155, .lload 10, 2, 10, [], [], []),
  (157, .lmul, 1, 0, [], [], []),
  (158, .lload 6, 2, 6, [], [], []),
  (160, .lcmp, 1, 0, [], [], []),
  (161, .ifCond .ne 20, 3, 181, [], [], []),
  (164, .lload 8, 2, 8, [], [], []),
  (166, .ldc2_w 249, 3, 0, [], [2], []),
  (169, .lrem, 1, 0, [], [], []),
  (170, .lconst 1, 1, 0, [], [1], []),
  (171, .lcmp, 1, 0, [], [], []),
  (172, .ifCond .ne 9, 3, 181, [], [], []),
  (175, .lload 8, 2, 8, [], [], []),
  (177, .lconst 1, 1, 0, [], [1], []),
  (178, .ladd, 1, 0, [], [], []),
  (179, .lstore 8, 2, 8, [], [], []),
  (181, .lload 8, 2, 8, [], [], []),
  (183, .lconst 1, 1, 0, [], [1], []),
  (184, .iload_n 3, 1, 3, [], [], []),
  (185, .lshl, 1, 0, [], [], []),
  (186, .lcmp, 1, 0, [], [], []),
  (187, .ifCond .ge 6, 3, 193, [], [], []),
  (190, .lload 8, 2, 8, [], [], []),
  (192, .lreturn, 1, 0, [], [], []),
  (193, .aload_n 0, 1, 0, [], [], []),
  (194, .dup, 1, 0, [], [], []),
  (195, .getfield 246, 3, 0, [], [10, 26], []),
  (198, .iconst 1, 1, 0, [], [], []),
  (199, .iadd, 1, 0, [], [], []),
  (200, .putfield 246, 3, 0, [], [10, 26], []),
  (203, .lload 8, 2, 8, [], [], []),
  (205, .ldc2_w 249, 3, 0, [], [2], []),
  (208, .ldiv, 1, 0, [], [], []),
  (209, .lreturn, 1, 0, [], [], [])], [(13, [true, false, false, true, true, false, true, false, false, false, false, false, false]), (46, [true, false, false, true, true, false, true, false, false, false, false, false, false]), (88, [true, false, false, true, false, false, true, false, true, false, true, false, true])])
def mX12_asFloat : sM := (4, 1, [
  (0, .iload_n 1, 1, 1, [], [], []),
  (1, .ifCond .ne 5, 3, 6, [], [], []),
  (4, .iconst 0, 1, 0, [], [], []),
  (5, .ireturn, 1, 0, [], [], []),
  (6, .aload_n 0, 1, 0, [], [], []),
  (7, .iload_n 1, 1, 1, [], [], []),
  (8, .iload_n 2, 1, 2, [], [], []),
  (9, .bipush 24, 2, 0, [], [], []),
  (11, .invokevirtual 251, 3, 208, [2, 3], [10], []),
  (14, .l2i, 1, 0, [], [], []),
  (15, .istore_n 3, 1, 3, [], [], []),
  (16, .aload_n 0, 1, 0, [], [], []),
  (17, .getfield 246, 3, 0, [], [10, 26], []),
  (20, .bipush 127, 2, 0, [], [], []),
  (22, .iadd, 1, 0, [], [], []),
  (23, .bipush 23, 2, 0, [], [], []),
  (25, .ishl, 1, 0, [], [], []),
  (26, .iload_n 3, 1, 3, [], [], []),
  (27, .ldc 255, 2, 0, [], [8388608], []),
  (29, .isub, 1, 0, [], [], []),
  (30, .ior, 1, 0, [], [], []),
  (31, .ireturn, 1, 0, [], [], [])], [])
def mX12_asDouble : sM := (5, 2, [
  (0, .iload_n 1, 1, 1, [], [], []),
  (1, .ifCond .ne 5, 3, 6, [], [], []),
  (4, .lconst 0, 1, 0, [], [0], []),
  (5, .lreturn, 1, 0, [], [], []),
  (6, .aload_n 0, 1, 0, [], [], []),
  (7, .iload_n 1, 1, 1, [], [], []),
  (8, .iload_n 2, 1, 2, [], [], []),
  (9, .bipush 53, 2, 0, [], [], []),
  (11, .invokevirtual 251, 3, 208, [2, 3], [10], []),
  (14, .lstore_n 3, 1, 3, [], [], []),
  (15, .aload_n 0, 1, 0, [], [], []),
  (16, .getfield 246, 3, 0, [], [10, 26], []),
  (19, .i2l, 1, 0, [], [], []),
  (20, .ldc2_w 256, 3, 0, [], [1023], []),
  (23, .ladd, 1, 0, [], [], []),
  (24, .bipush 52, 2, 0, [], [], []),
  (26, .lshl, 1, 0, [], [], []),
  (27, .lload_n 3, 1, 3, [], [], []),
  (28, .ldc2_w 258, 3, 0, [], [4503599627370496], []),
  (31, .lsub, 1, 0, [], [], []),
  (32, .lor, 1, 0, [], [], []),
  (33, .lreturn, 1, 0, [], [], [])], [])
def mX12_dense : sM := (4, 1, [
  (0, .aload_n 0, 1, 0, [], [], []),
  (1, .iconst 0, 1, 0, [], [], []),
  (2, .putfield 1, 3, 0, [], [10, 0], []),
  (5, .aload_n 0, 1, 0, [], [], []),
  (6, .iload_n 1, 1, 1, [], [], []),
  (7, .invokevirtual 215, 3, 188, [4, 1], [10], []),
  (10, .ifCond .eq 32, 3, 42, [], [], []),
  (13, .iload_n 2, 1, 2, [], [], []),
  (14, .ifCond .lt 28, 3, 42, [], [], []),
  (17, .iload_n 3, 1, 3, [], [], []),
  (18, .iconst 1, 1, 0, [], [], []),
  (19, .if_icmp .lt 23, 3, 42, [], [], []),
  (22, .iload_n 3, 1, 3, [], [], []),
  (23, .aload_n 0, 1, 0, [], [], []),
  (24, .iload_n 1, 1, 1, [], [], []),
  (25, .invokevirtual 199, 3, 180, [1, 1], [10], []),
  (28, .if_icmp .gt 14, 3, 42, [], [], []),
  (31, .iload_n 2, 1, 2, [], [], []),
  (32, .aload_n 0, 1, 0, [], [], []),
  (33, .iload_n 1, 1, 1, [], [], []),
  (34, .invokevirtual 199, 3, 180, [1, 1], [10], []),
  (37, .iload_n 3, 1, 3, [], [], []),
  (38, .isub, 1, 0, [], [], []),
  (39, .if_icmp .le 8, 3, 47, [], [], []),
  (42, .aload_n 0, 1, 0, [], [], []),
  (43, .invokevirtual 231, 3, 150, [1, 0], [10], []),
  (46, .ireturn, 1, 0, [], [], []),
  (47, .aload_n 0, 1, 0, [], [], []),
  (48, .aload_n 0, 1, 0, [], [], []),
  (49, .iload_n 1, 1, 1, [], [], []),
  (50, .iload_n 2, 1, 2, [], [], []),
  (51, .iload_n 2, 1, 2, [], [], []),
  (52, .iload_n 3, 1, 3, [], [], []),
  (53, .iadd, 1, 0, [], [], []),
  (54, .invokevirtual 224, 3, 191, [1, 3], [10], []),
  (57, .iload_n 3, 1, 3, [], [], []),
  (58, .invokevirtual 260, 3, 209, [1, 2], [10], []),
  (61, .ireturn, 1, 0, [], [], [])], [])
def mX12_load : sM := (2, 1, [
  (0, .aload_n 0, 1, 0, [], [], []),
  (1, .iconst 0, 1, 0, [], [], []),
  (2, .putfield 1, 3, 0, [], [10, 0], []),
  (5, .aload_n 0, 1, 0, [], [], []),
  (6, .iload_n 1, 1, 1, [], [], []),
  (7, .invokevirtual 215, 3, 188, [4, 1], [10], []),
  (10, .ifCond .eq 31, 3, 41, [], [], []),
  (13, .aload_n 0, 1, 0, [], [], []),
  (14, .iload_n 1, 1, 1, [], [], []),
  (15, .invokevirtual 199, 3, 180, [1, 1], [10], []),
  (18, .ifCond .le 23, 3, 41, [], [], []),
  (21, .aload_n 0, 1, 0, [], [], []),
  (22, .bipush 32, 2, 0, [], [], []),
  (24, .aload_n 0, 1, 0, [], [], []),
  (25, .iload_n 1, 1, 1, [], [], []),
  (26, .invokevirtual 243, 3, 206, [1, 1], [10], []),
  (29, .imul, 1, 0, [], [], []),
  (30, .aload_n 0, 1, 0, [], [], []),
  (31, .iload_n 1, 1, 1, [], [], []),
  (32, .invokevirtual 199, 3, 180, [1, 1], [10], []),
  (35, .invokevirtual 260, 3, 209, [1, 2], [10], []),
  (38, .goto 7, 3, 45, [], [], []),
  (41, .aload_n 0, 1, 0, [], [], []),
  (42, .invokevirtual 231, 3, 150, [1, 0], [10], []),
  (45, .ireturn, 1, 0, [], [], [])], [])
def mX12_centre : sM := (7, 1, [
  (0, .aload_n 0, 1, 0, [], [], []),
  (1, .iconst 0, 1, 0, [], [], []),
  (2, .putfield 1, 3, 0, [], [10, 0], []),
  (5, .aload_n 0, 1, 0, [], [], []),
  (6, .iload_n 1, 1, 1, [], [], []),
  (7, .invokevirtual 215, 3, 188, [4, 1], [10], []),
  (10, .ifCond .eq 12, 3, 22, [], [], []),
  (13, .iload_n 2, 1, 2, [], [], []),
  (14, .iconst 0, 1, 0, [], [], []),
  (15, .iconst 1, 1, 0, [], [], []),
  (16, .invokestatic 75, 3, 155, [4, 3], [], []),
  (19, .ifCond .ne 8, 3, 27, [], [], []),
  (22, .aload_n 0, 1, 0, [], [], []),
  (23, .invokevirtual 231, 3, 150, [1, 0], [10], []),
  (26, .ireturn, 1, 0, [], [], []),
  (27, .iconst 0, 1, 0, [], [], []),
  (28, .istore_n 3, 1, 3, [], [], []),
  (29, .iconst 0, 1, 0, [], [], []),
  (30, .istore 4, 2, 4, [], [], []),
  (32, .iconst 0, 1, 0, [], [], []),
  (33, .istore 5, 2, 5, [], [], []),
  (35, .iload 5, 2, 5, [], [], []),
  (37, .aload_n 0, 1, 0, [], [], []),
  (38, .iload_n 1, 1, 1, [], [], []),
  (39, .invokevirtual 199, 3, 180, [1, 1], [10], []),
  (42, .if_icmp .ge 32, 3, 74, [], [], []),
  (45, .aload_n 0, 1, 0, [], [], []),
  (46, .iload_n 1, 1, 1, [], [], []),
  (47, .iload 5, 2, 5, [], [], []),
  (49, .invokevirtual 212, 3, 181, [1, 2], [10], []),
  (52, .ifCond .ne 6, 3, 58, [], [], []),
  (55, .goto 13, 3, 68, [], [], []),
  (58, .iinc 3 1, 3, 3, [], [], []),
  (61, .iload 4, 2, 4, [], [], []),
  (63, .iload 5, 2, 5, [], [], []),
  (65, .iadd, 1, 0, [], [], []),
  (66, .istore 4, 2, 4, [], [], []),
  (68, .iinc 5 1, 3, 5, [], [], []),
  (71, .goto (-36), 3, 35, [], [], []),
  (74, .iload_n 3, 1, 3, [], [], []),
  (75, .ifCond .ne 8, 3, 83, [], [], []),
  (78, .aload_n 0, 1, 0, [], [], []),
  (79, .invokevirtual 231, 3, 150, [1, 0], [10], []),
  (82, .ireturn, 1, 0, [], [], []),
  (83, .aload_n 0, 1, 0, [], [], []),
  (84, .iload 4, 2, 4, [], [], []),
  (86, .iload_n 3, 1, 3, [], [], []),
  (87, .invokevirtual 263, 3, 210, [2, 2], [10], []),
  (90, .lstore 5, 2, 5, [], [], []),
  (92, .iload_n 2, 1, 2, [], [], []),
  (93, .ifCond .ne 11, 3, 104, [], [], []),
  (96, .lload 5, 2, 5, [], [], []),
  (98, .bipush 32, 2, 0, [], [], []),
  (100, .lshr, 1, 0, [], [], []),
  (101, .goto 5, 3, 106, [], [], []),
  (104, .lload 5, 2, 5, [], [], []),
  (106, .l2i, 1, 0, [], [], []),
  (107, .ireturn, 1, 0, [], [], [])], [(35, [true, true, true, true, true, true, false])])
def mX12_firstApart : sM := (4, 1, [
  (0, .iconst 0, 1, 0, [], [], []),
  (1, .istore_n 3, 1, 3, [], [], []),
  (2, .aload_n 0, 1, 0, [], [], []),
  (3, .iload_n 1, 1, 1, [], [], []),
  (4, .iload_n 3, 1, 3, [], [], []),
  (5, .invokevirtual 218, 3, 190, [4, 2], [10], []),
  (8, .ifCond .eq 33, 3, 41, [], [], []),
  (11, .aload_n 0, 1, 0, [], [], []),
  (12, .iload_n 2, 1, 2, [], [], []),
  (13, .iload_n 3, 1, 3, [], [], []),
  (14, .invokevirtual 218, 3, 190, [4, 2], [10], []),
  (17, .ifCond .eq 24, 3, 41, [], [], []),
  (20, .aload_n 0, 1, 0, [], [], []),
  (21, .iload_n 1, 1, 1, [], [], []),
  (22, .iload_n 3, 1, 3, [], [], []),
  (23, .invokevirtual 212, 3, 181, [1, 2], [10], []),
  (26, .aload_n 0, 1, 0, [], [], []),
  (27, .iload_n 2, 1, 2, [], [], []),
  (28, .iload_n 3, 1, 3, [], [], []),
  (29, .invokevirtual 212, 3, 181, [1, 2], [10], []),
  (32, .if_icmp .ne 9, 3, 41, [], [], []),
  (35, .iinc 3 1, 3, 3, [], [], []),
  (38, .goto (-36), 3, 2, [], [], []),
  (41, .iload_n 3, 1, 3, [], [], []),
  (42, .ireturn, 1, 0, [], [], [])], [(2, [true, true, true, true])])
def mX12_apart : sM := (5, 1, [
  (0, .aload_n 0, 1, 0, [], [], []),
  (1, .iconst 0, 1, 0, [], [], []),
  (2, .putfield 1, 3, 0, [], [10, 0], []),
  (5, .aload_n 0, 1, 0, [], [], []),
  (6, .iload_n 1, 1, 1, [], [], []),
  (7, .invokevirtual 215, 3, 188, [4, 1], [10], []),
  (10, .ifCond .eq 11, 3, 21, [], [], []),
  (13, .aload_n 0, 1, 0, [], [], []),
  (14, .iload_n 2, 1, 2, [], [], []),
  (15, .invokevirtual 215, 3, 188, [4, 1], [10], []),
  (18, .ifCond .ne 5, 3, 23, [], [], []),
  (21, .iconst (-1), 1, 0, [], [], []),
  (22, .ireturn, 1, 0, [], [], []),
  (23, .aload_n 0, 1, 0, [], [], []),
  (24, .iload_n 1, 1, 1, [], [], []),
  (25, .invokevirtual 199, 3, 180, [1, 1], [10], []),
  (28, .aload_n 0, 1, 0, [], [], []),
  (29, .iload_n 2, 1, 2, [], [], []),
  (30, .invokevirtual 199, 3, 180, [1, 1], [10], []),
  (33, .if_icmp .le 17, 3, 50, [], [], []),
  (36, .aload_n 0, 1, 0, [], [], []),
  (37, .iload_n 1, 1, 1, [], [], []),
  (38, .invokevirtual 199, 3, 180, [1, 1], [10], []),
  (41, .aload_n 0, 1, 0, [], [], []),
  (42, .iload_n 2, 1, 2, [], [], []),
  (43, .invokevirtual 199, 3, 180, [1, 1], [10], []),
  (46, .isub, 1, 0, [], [], []),
  (47, .goto 14, 3, 61, [], [], []),
  (50, .aload_n 0, 1, 0, [], [], []),
  (51, .iload_n 2, 1, 2, [], [], []),
  (52, .invokevirtual 199, 3, 180, [1, 1], [10], []),
  (55, .aload_n 0, 1, 0, [], [], []),
  (56, .iload_n 1, 1, 1, [], [], []),
  (57, .invokevirtual 199, 3, 180, [1, 1], [10], []),
  (60, .isub, 1, 0, [], [], []),
  (61, .istore_n 3, 1, 3, [], [], []),
  (62, .iconst 0, 1, 0, [], [], []),
  (63, .istore 4, 2, 4, [], [], []),
  (65, .aload_n 0, 1, 0, [], [], []),
  (66, .iload_n 1, 1, 1, [], [], []),
  (67, .iload 4, 2, 4, [], [], []),
  (69, .invokevirtual 218, 3, 190, [4, 2], [10], []),
  (72, .ifCond .eq 39, 3, 111, [], [], []),
  (75, .aload_n 0, 1, 0, [], [], []),
  (76, .iload_n 2, 1, 2, [], [], []),
  (77, .iload 4, 2, 4, [], [], []),
  (79, .invokevirtual 218, 3, 190, [4, 2], [10], []),
  (82, .ifCond .eq 29, 3, 111, [], [], []),
  (85, .aload_n 0, 1, 0, [], [], []),
  (86, .iload_n 1, 1, 1, [], [], []),
  (87, .iload 4, 2, 4, [], [], []),
  (89, .invokevirtual 212, 3, 181, [1, 2], [10], []),
  (92, .aload_n 0, 1, 0, [], [], []),
  (93, .iload_n 2, 1, 2, [], [], []),
  (94, .iload 4, 2, 4, [], [], []),
  (96, .invokevirtual 212, 3, 181, [1, 2], [10], []),
  (99, .if_icmp .eq 6, 3, 105, [], [], []),
  (102, .iinc 3 1, 3, 3, [], [], []),
  (105, .iinc 4 1, 3, 4, [], [], []),
  (108, .goto (-43), 3, 65, [], [], []),
  (111, .iload_n 3, 1, 3, [], [], []),
  (112, .ireturn, 1, 0, [], [], [])], [(65, [true, true, true, true, true])])
def mX12_areLike : sM := (3, 4, [
  (0, .aload_n 0, 1, 0, [], [], []),
  (1, .iload_n 1, 1, 1, [], [], []),
  (2, .invokevirtual 199, 3, 180, [1, 1], [10], []),
  (5, .aload_n 0, 1, 0, [], [], []),
  (6, .iload_n 2, 1, 2, [], [], []),
  (7, .invokevirtual 199, 3, 180, [1, 1], [10], []),
  (10, .if_icmp .ne 21, 3, 31, [], [], []),
  (13, .aload_n 0, 1, 0, [], [], []),
  (14, .iload_n 1, 1, 1, [], [], []),
  (15, .iload_n 2, 1, 2, [], [], []),
  (16, .invokevirtual 267, 3, 214, [1, 2], [10], []),
  (19, .aload_n 0, 1, 0, [], [], []),
  (20, .iload_n 1, 1, 1, [], [], []),
  (21, .invokevirtual 199, 3, 180, [1, 1], [10], []),
  (24, .if_icmp .ne 7, 3, 31, [], [], []),
  (27, .iconst 1, 1, 0, [], [], []),
  (28, .goto 4, 3, 32, [], [], []),
  (31, .iconst 0, 1, 0, [], [], []),
  (32, .ireturn, 1, 0, [], [], [])], [])
def mX12_differ : sM := (3, 1, [
  (0, .aload_n 0, 1, 0, [], [], []),
  (1, .iconst 0, 1, 0, [], [], []),
  (2, .putfield 1, 3, 0, [], [10, 0], []),
  (5, .aload_n 0, 1, 0, [], [], []),
  (6, .iload_n 1, 1, 1, [], [], []),
  (7, .invokevirtual 215, 3, 188, [4, 1], [10], []),
  (10, .ifCond .eq 29, 3, 39, [], [], []),
  (13, .aload_n 0, 1, 0, [], [], []),
  (14, .iload_n 2, 1, 2, [], [], []),
  (15, .invokevirtual 215, 3, 188, [4, 1], [10], []),
  (18, .ifCond .eq 21, 3, 39, [], [], []),
  (21, .aload_n 0, 1, 0, [], [], []),
  (22, .iload_n 1, 1, 1, [], [], []),
  (23, .iload_n 2, 1, 2, [], [], []),
  (24, .invokevirtual 270, 3, 216, [4, 2], [10], []),
  (27, .ifCond .ne 12, 3, 39, [], [], []),
  (30, .aload_n 0, 1, 0, [], [], []),
  (31, .iload_n 1, 1, 1, [], [], []),
  (32, .iload_n 2, 1, 2, [], [], []),
  (33, .invokevirtual 267, 3, 214, [1, 2], [10], []),
  (36, .goto 4, 3, 40, [], [], []),
  (39, .iconst (-1), 1, 0, [], [], []),
  (40, .ireturn, 1, 0, [], [], [])], [])
def mX12_isOnTape : sM := (5, 4, [
  (0, .iconst 0, 1, 0, [], [], []),
  (1, .istore 4, 2, 4, [], [], []),
  (3, .iload 4, 2, 4, [], [], []),
  (5, .iload_n 3, 1, 3, [], [], []),
  (6, .if_icmp .ge 30, 3, 36, [], [], []),
  (9, .aload_n 0, 1, 0, [], [], []),
  (10, .iload_n 1, 1, 1, [], [], []),
  (11, .iload_n 2, 1, 2, [], [], []),
  (12, .iload 4, 2, 4, [], [], []),
  (14, .iadd, 1, 0, [], [], []),
  (15, .invokevirtual 212, 3, 181, [1, 2], [10], []),
  (18, .aload_n 0, 1, 0, [], [], []),
  (19, .getfield 7, 3, 2, [], [10, 1], []),
  (22, .iload 4, 2, 4, [], [], []),
  (24, .iaload, 1, 0, [], [], []),
  (25, .if_icmp .eq 5, 3, 30, [], [], []),
  (28, .iconst 0, 1, 0, [], [], []),
  (29, .ireturn, 1, 0, [], [], []),
  (30, .iinc 4 1, 3, 4, [], [], []),
  (33, .goto (-30), 3, 3, [], [], []),
  (36, .iconst 1, 1, 0, [], [], []),
  (37, .ireturn, 1, 0, [], [], [])], [(3, [true, true, true, true, true])])
def mX12_areTapeBits : sM := (4, 4, [
  (0, .iconst 0, 1, 0, [], [], []),
  (1, .istore_n 3, 1, 3, [], [], []),
  (2, .iload_n 3, 1, 3, [], [], []),
  (3, .iload_n 1, 1, 1, [], [], []),
  (4, .if_icmp .ge 21, 3, 25, [], [], []),
  (7, .aload_n 0, 1, 0, [], [], []),
  (8, .getfield 7, 3, 2, [], [10, 1], []),
  (11, .iload_n 3, 1, 3, [], [], []),
  (12, .iaload, 1, 0, [], [], []),
  (13, .iconst 1, 1, 0, [], [], []),
  (14, .if_icmp .le 5, 3, 19, [], [], []),
  (17, .iconst 0, 1, 0, [], [], []),
  (18, .ireturn, 1, 0, [], [], []),
  (19, .iinc 3 1, 3, 3, [], [], []),
  (22, .goto (-20), 3, 2, [], [], []),
  (25, .iload_n 1, 1, 1, [], [], []),
  (26, .iconst 1, 1, 0, [], [], []),
  (27, .iload_n 2, 1, 2, [], [], []),
  (28, .invokestatic 75, 3, 155, [4, 3], [], []),
  (31, .ireturn, 1, 0, [], [], [])], [(2, [true, true, true, true])])
def mX12_seek : sM := (4, 1, [
  (0, .aload_n 0, 1, 0, [], [], []),
  (1, .iconst 0, 1, 0, [], [], []),
  (2, .putfield 1, 3, 0, [], [10, 0], []),
  (5, .aload_n 0, 1, 0, [], [], []),
  (6, .invokevirtual 89, 3, 154, [1, 0], [10], []),
  (9, .istore_n 2, 1, 2, [], [], []),
  (10, .aload_n 0, 1, 0, [], [], []),
  (11, .iload_n 1, 1, 1, [], [], []),
  (12, .invokevirtual 215, 3, 188, [4, 1], [10], []),
  (15, .ifCond .eq 13, 3, 28, [], [], []),
  (18, .aload_n 0, 1, 0, [], [], []),
  (19, .iload_n 2, 1, 2, [], [], []),
  (20, .bipush 32, 2, 0, [], [], []),
  (22, .invokevirtual 273, 3, 219, [4, 2], [10], []),
  (25, .ifCond .ne 5, 3, 30, [], [], []),
  (28, .iconst (-1), 1, 0, [], [], []),
  (29, .ireturn, 1, 0, [], [], []),
  (30, .aload_n 0, 1, 0, [], [], []),
  (31, .iconst 0, 1, 0, [], [], []),
  (32, .putfield 276, 3, 0, [], [10, 28], []),
  (35, .iconst 0, 1, 0, [], [], []),
  (36, .istore_n 3, 1, 3, [], [], []),
  (37, .iload_n 3, 1, 3, [], [], []),
  (38, .iload_n 2, 1, 2, [], [], []),
  (39, .iadd, 1, 0, [], [], []),
  (40, .aload_n 0, 1, 0, [], [], []),
  (41, .iload_n 1, 1, 1, [], [], []),
  (42, .invokevirtual 199, 3, 180, [1, 1], [10], []),
  (45, .if_icmp .gt 42, 3, 87, [], [], []),
  (48, .aload_n 0, 1, 0, [], [], []),
  (49, .iload_n 1, 1, 1, [], [], []),
  (50, .iload_n 3, 1, 3, [], [], []),
  (51, .iload_n 2, 1, 2, [], [], []),
  (52, .invokevirtual 279, 3, 218, [4, 3], [10], []),
  (55, .ifCond .ne 6, 3, 61, [], [], []),
  (58, .goto 23, 3, 81, [], [], []),
  (61, .aload_n 0, 1, 0, [], [], []),
  (62, .getfield 130, 3, 2, [], [10, 27], []),
  (65, .aload_n 0, 1, 0, [], [], []),
  (66, .getfield 276, 3, 0, [], [10, 28], []),
  (69, .iload_n 3, 1, 3, [], [], []),
  (70, .iastore, 1, 0, [], [], []),
  (71, .aload_n 0, 1, 0, [], [], []),
  (72, .dup, 1, 0, [], [], []),
  (73, .getfield 276, 3, 0, [], [10, 28], []),
  (76, .iconst 1, 1, 0, [], [], []),
  (77, .iadd, 1, 0, [], [], []),
  (78, .putfield 276, 3, 0, [], [10, 28], []),
  (81, .iinc 3 1, 3, 3, [], [], []),
  (84, .goto (-47), 3, 37, [], [], []),
  (87, .aload_n 0, 1, 0, [], [], []),
  (88, .getfield 276, 3, 0, [], [10, 28], []),
  (91, .ireturn, 1, 0, [], [], [])], [(37, [true, true, true, true])])
def mX12_seekAt : sM := (2, 1, [
  (0, .aload_n 0, 1, 0, [], [], []),
  (1, .iconst 0, 1, 0, [], [], []),
  (2, .putfield 1, 3, 0, [], [10, 0], []),
  (5, .iload_n 1, 1, 1, [], [], []),
  (6, .iconst 0, 1, 0, [], [], []),
  (7, .aload_n 0, 1, 0, [], [], []),
  (8, .getfield 276, 3, 0, [], [10, 28], []),
  (11, .iconst 1, 1, 0, [], [], []),
  (12, .isub, 1, 0, [], [], []),
  (13, .invokestatic 75, 3, 155, [4, 3], [], []),
  (16, .ifCond .eq 12, 3, 28, [], [], []),
  (19, .aload_n 0, 1, 0, [], [], []),
  (20, .getfield 130, 3, 2, [], [10, 27], []),
  (23, .iload_n 1, 1, 1, [], [], []),
  (24, .iaload, 1, 0, [], [], []),
  (25, .goto 4, 3, 29, [], [], []),
  (28, .iconst (-1), 1, 0, [], [], []),
  (29, .ireturn, 1, 0, [], [], [])], [])
def mX12_isLetterAt : sM := (2, 4, [
  (0, .iload_n 1, 1, 1, [], [], []),
  (1, .iconst 0, 1, 0, [], [], []),
  (2, .aload_n 0, 1, 0, [], [], []),
  (3, .getfield 98, 3, 2, [], [10, 14], []),
  (6, .sipush 2615, 3, 0, [], [], []),
  (9, .iaload, 1, 0, [], [], []),
  (10, .iconst 1, 1, 0, [], [], []),
  (11, .isub, 1, 0, [], [], []),
  (12, .invokestatic 75, 3, 155, [4, 3], [], []),
  (15, .ireturn, 1, 0, [], [], [])], [])
def mX12_letters : sM := (1, 1, [
  (0, .aload_n 0, 1, 0, [], [], []),
  (1, .iconst 0, 1, 0, [], [], []),
  (2, .putfield 1, 3, 0, [], [10, 0], []),
  (5, .aload_n 0, 1, 0, [], [], []),
  (6, .getfield 98, 3, 2, [], [10, 14], []),
  (9, .sipush 2615, 3, 0, [], [], []),
  (12, .iaload, 1, 0, [], [], []),
  (13, .ireturn, 1, 0, [], [], [])], [])
def mX12_letter : sM := (2, 1, [
  (0, .aload_n 0, 1, 0, [], [], []),
  (1, .iconst 0, 1, 0, [], [], []),
  (2, .putfield 1, 3, 0, [], [10, 0], []),
  (5, .aload_n 0, 1, 0, [], [], []),
  (6, .iload_n 1, 1, 1, [], [], []),
  (7, .invokevirtual 282, 3, 222, [4, 1], [10], []),
  (10, .ifCond .eq 16, 3, 26, [], [], []),
  (13, .aload_n 0, 1, 0, [], [], []),
  (14, .getfield 98, 3, 2, [], [10, 14], []),
  (17, .sipush 2616, 3, 0, [], [], []),
  (20, .iload_n 1, 1, 1, [], [], []),
  (21, .iadd, 1, 0, [], [], []),
  (22, .iaload, 1, 0, [], [], []),
  (23, .goto 4, 3, 27, [], [], []),
  (26, .iconst (-1), 1, 0, [], [], []),
  (27, .ireturn, 1, 0, [], [], [])], [])
def mX12_count : sM := (5, 1, [
  (0, .aload_n 0, 1, 0, [], [], []),
  (1, .iconst 0, 1, 0, [], [], []),
  (2, .putfield 1, 3, 0, [], [10, 0], []),
  (5, .iload_n 1, 1, 1, [], [], []),
  (6, .iconst 0, 1, 0, [], [], []),
  (7, .bipush 7, 2, 0, [], [], []),
  (9, .invokestatic 75, 3, 155, [4, 3], [], []),
  (12, .ifCond .eq 19, 3, 31, [], [], []),
  (15, .iload_n 2, 1, 2, [], [], []),
  (16, .iconst 0, 1, 0, [], [], []),
  (17, .aload_n 0, 1, 0, [], [], []),
  (18, .getfield 98, 3, 2, [], [10, 14], []),
  (21, .sipush 2615, 3, 0, [], [], []),
  (24, .iaload, 1, 0, [], [], []),
  (25, .invokestatic 75, 3, 155, [4, 3], [], []),
  (28, .ifCond .ne 5, 3, 33, [], [], []),
  (31, .iconst (-1), 1, 0, [], [], []),
  (32, .ireturn, 1, 0, [], [], []),
  (33, .iconst 0, 1, 0, [], [], []),
  (34, .istore_n 3, 1, 3, [], [], []),
  (35, .iconst 0, 1, 0, [], [], []),
  (36, .istore 4, 2, 4, [], [], []),
  (38, .iload 4, 2, 4, [], [], []),
  (40, .iload_n 2, 1, 2, [], [], []),
  (41, .if_icmp .ge 27, 3, 68, [], [], []),
  (44, .aload_n 0, 1, 0, [], [], []),
  (45, .getfield 98, 3, 2, [], [10, 14], []),
  (48, .sipush 2616, 3, 0, [], [], []),
  (51, .iload 4, 2, 4, [], [], []),
  (53, .iadd, 1, 0, [], [], []),
  (54, .iaload, 1, 0, [], [], []),
  (55, .iload_n 1, 1, 1, [], [], []),
  (56, .if_icmp .ne 6, 3, 62, [], [], []),
  (59, .iinc 3 1, 3, 3, [], [], []),
  (62, .iinc 4 1, 3, 4, [], [], []),
  (65, .goto (-27), 3, 38, [], [], []),
  (68, .iload_n 3, 1, 3, [], [], []),
  (69, .ireturn, 1, 0, [], [], [])], [(38, [true, true, true, true, true])])
def mX12_place : sM := (5, 1, [
  (0, .aload_n 0, 1, 0, [], [], []),
  (1, .iconst 0, 1, 0, [], [], []),
  (2, .putfield 1, 3, 0, [], [10, 0], []),
  (5, .iload_n 1, 1, 1, [], [], []),
  (6, .iconst 0, 1, 0, [], [], []),
  (7, .bipush 7, 2, 0, [], [], []),
  (9, .invokestatic 75, 3, 155, [4, 3], [], []),
  (12, .ifCond .eq 7, 3, 19, [], [], []),
  (15, .iload_n 2, 1, 2, [], [], []),
  (16, .ifCond .ge 5, 3, 21, [], [], []),
  (19, .iconst (-1), 1, 0, [], [], []),
  (20, .ireturn, 1, 0, [], [], []),
  (21, .iconst 0, 1, 0, [], [], []),
  (22, .istore_n 3, 1, 3, [], [], []),
  (23, .iconst 0, 1, 0, [], [], []),
  (24, .istore 4, 2, 4, [], [], []),
  (26, .iload 4, 2, 4, [], [], []),
  (28, .aload_n 0, 1, 0, [], [], []),
  (29, .getfield 98, 3, 2, [], [10, 14], []),
  (32, .sipush 2615, 3, 0, [], [], []),
  (35, .iaload, 1, 0, [], [], []),
  (36, .if_icmp .ge 38, 3, 74, [], [], []),
  (39, .aload_n 0, 1, 0, [], [], []),
  (40, .getfield 98, 3, 2, [], [10, 14], []),
  (43, .sipush 2616, 3, 0, [], [], []),
  (46, .iload 4, 2, 4, [], [], []),
  (48, .iadd, 1, 0, [], [], []),
  (49, .iaload, 1, 0, [], [], []),
  (50, .iload_n 1, 1, 1, [], [], []),
  (51, .if_icmp .eq 6, 3, 57, [], [], []),
  (54, .goto 14, 3, 68, [], [], []),
  (57, .iload_n 3, 1, 3, [], [], []),
  (58, .iload_n 2, 1, 2, [], [], []),
  (59, .if_icmp .ne 6, 3, 65, [], [], []),
  (62, .iload 4, 2, 4, [], [], []),
  (64, .ireturn, 1, 0, [], [], []),
  (65, .iinc 3 1, 3, 3, [], [], []),
  (68, .iinc 4 1, 3, 4, [], [], []),
  (71, .goto (-45), 3, 26, [], [], []),
  (74, .iconst (-1), 1, 0, [], [], []),
  (75, .ireturn, 1, 0, [], [], [])], [(26, [true, true, true, true, true])])
def mX12_least : sM := (7, 1, [
  (0, .aload_n 0, 1, 0, [], [], []),
  (1, .iconst 0, 1, 0, [], [], []),
  (2, .putfield 1, 3, 0, [], [10, 0], []),
  (5, .iload_n 1, 1, 1, [], [], []),
  (6, .ifCond .lt 19, 3, 25, [], [], []),
  (9, .iload_n 2, 1, 2, [], [], []),
  (10, .aload_n 0, 1, 0, [], [], []),
  (11, .getfield 98, 3, 2, [], [10, 14], []),
  (14, .sipush 2615, 3, 0, [], [], []),
  (17, .iaload, 1, 0, [], [], []),
  (18, .if_icmp .gt 7, 3, 25, [], [], []),
  (21, .iload_n 3, 1, 3, [], [], []),
  (22, .ifCond .ge 5, 3, 27, [], [], []),
  (25, .iconst (-1), 1, 0, [], [], []),
  (26, .ireturn, 1, 0, [], [], []),
  (27, .iconst 0, 1, 0, [], [], []),
  (28, .istore 4, 2, 4, [], [], []),
  (30, .iconst 0, 1, 0, [], [], []),
  (31, .istore 5, 2, 5, [], [], []),
  (33, .iload 5, 2, 5, [], [], []),
  (35, .bipush 8, 2, 0, [], [], []),
  (37, .if_icmp .ge 52, 3, 89, [], [], []),
  (40, .iload_n 1, 1, 1, [], [], []),
  (41, .istore 6, 2, 6, [], [], []),
  (43, .iload 6, 2, 6, [], [], []),
  (45, .iload_n 2, 1, 2, [], [], []),
  (46, .if_icmp .ge 28, 3, 74, [], [], []),
  (49, .aload_n 0, 1, 0, [], [], []),
  (50, .getfield 98, 3, 2, [], [10, 14], []),
  (53, .sipush 2616, 3, 0, [], [], []),
  (56, .iload 6, 2, 6, [], [], []),
  (58, .iadd, 1, 0, [], [], []),
  (59, .iaload, 1, 0, [], [], []),
  (60, .iload 5, 2, 5, [], [], []),
  (62, .if_icmp .ne 6, 3, 68, [], [], []),
  (65, .iinc 4 1, 3, 4, [], [], []),
  (68, .iinc 6 1, 3, 6, [], [], []),
  (71, .goto (-28), 3, 43, [], [], []),
  (74, .iload 4, 2, 4, [], [], []),
  (76, .iload_n 3, 1, 3, [], [], []),
  (77, .if_icmp .le 6, 3, 83, [], [], []),
  (80, .iload 5, 2, 5, [], [], []),
  (82, .ireturn, 1, 0, [], [], []),
  (83, .iinc 5 1, 3, 5, [], [], []),
  (86, .goto (-53), 3, 33, [], [], []),
  (89, .iconst (-1), 1, 0, [], [], []),
  (90, .ireturn, 1, 0, [], [], [])], [(33, [true, true, true, true, true, true, false]), (43, [true, true, true, true, true, true, true])])
def mX12_isInNode : sM := (2, 4, [
  (0, .iload_n 0, 1, 0, [], [], []),
  (1, .ifCond .eq 31, 3, 32, [], [], []),
  (4, .iload_n 0, 1, 0, [], [], []),
  (5, .iconst 3, 1, 0, [], [], []),
  (6, .if_icmp .ge 12, 3, 18, [], [], []),
  (9, .iload_n 1, 1, 1, [], [], []),
  (10, .iconst 4, 1, 0, [], [], []),
  (11, .idiv, 1, 0, [], [], []),
  (12, .iload_n 0, 1, 0, [], [], []),
  (13, .iconst 1, 1, 0, [], [], []),
  (14, .isub, 1, 0, [], [], []),
  (15, .if_icmp .eq 17, 3, 32, [], [], []),
  (18, .iload_n 0, 1, 0, [], [], []),
  (19, .iconst 2, 1, 0, [], [], []),
  (20, .if_icmp .le 16, 3, 36, [], [], []),
  (23, .iload_n 1, 1, 1, [], [], []),
  (24, .iconst 2, 1, 0, [], [], []),
  (25, .idiv, 1, 0, [], [], []),
  (26, .iload_n 0, 1, 0, [], [], []),
  (27, .iconst 3, 1, 0, [], [], []),
  (28, .isub, 1, 0, [], [], []),
  (29, .if_icmp .ne 7, 3, 36, [], [], []),
  (32, .iconst 1, 1, 0, [], [], []),
  (33, .goto 4, 3, 37, [], [], []),
  (36, .iconst 0, 1, 0, [], [], []),
  (37, .ireturn, 1, 0, [], [], [])], [])
def mX12_node : sM := (6, 1, [
  (0, .aload_n 0, 1, 0, [], [], []),
  (1, .iconst 0, 1, 0, [], [], []),
  (2, .putfield 1, 3, 0, [], [10, 0], []),
  (5, .iload_n 1, 1, 1, [], [], []),
  (6, .iconst 0, 1, 0, [], [], []),
  (7, .bipush 6, 2, 0, [], [], []),
  (9, .invokestatic 75, 3, 155, [4, 3], [], []),
  (12, .ifCond .eq 7, 3, 19, [], [], []),
  (15, .iload_n 2, 1, 2, [], [], []),
  (16, .ifCond .ge 5, 3, 21, [], [], []),
  (19, .iconst (-1), 1, 0, [], [], []),
  (20, .ireturn, 1, 0, [], [], []),
  (21, .iconst 0, 1, 0, [], [], []),
  (22, .istore_n 3, 1, 3, [], [], []),
  (23, .iconst 0, 1, 0, [], [], []),
  (24, .istore 4, 2, 4, [], [], []),
  (26, .iload 4, 2, 4, [], [], []),
  (28, .aload_n 0, 1, 0, [], [], []),
  (29, .getfield 98, 3, 2, [], [10, 14], []),
  (32, .sipush 2615, 3, 0, [], [], []),
  (35, .iaload, 1, 0, [], [], []),
  (36, .if_icmp .ge 66, 3, 102, [], [], []),
  (39, .aload_n 0, 1, 0, [], [], []),
  (40, .getfield 98, 3, 2, [], [10, 14], []),
  (43, .sipush 2616, 3, 0, [], [], []),
  (46, .iload 4, 2, 4, [], [], []),
  (48, .iadd, 1, 0, [], [], []),
  (49, .iaload, 1, 0, [], [], []),
  (50, .istore 5, 2, 5, [], [], []),
  (52, .iload_n 1, 1, 1, [], [], []),
  (53, .iload 5, 2, 5, [], [], []),
  (55, .invokestatic 285, 3, 228, [4, 2], [], []),
  (58, .ifCond .ne 6, 3, 64, [], [], []),
  (61, .goto 35, 3, 96, [], [], []),
  (64, .iload_n 3, 1, 3, [], [], []),
  (65, .iload_n 2, 1, 2, [], [], []),
  (66, .if_icmp .ne 27, 3, 93, [], [], []),
  (69, .iload 5, 2, 5, [], [], []),
  (71, .iload_n 1, 1, 1, [], [], []),
  (72, .ifCond .ne 7, 3, 79, [], [], []),
  (75, .iconst 2, 1, 0, [], [], []),
  (76, .goto 13, 3, 89, [], [], []),
  (79, .iload_n 1, 1, 1, [], [], []),
  (80, .iconst 3, 1, 0, [], [], []),
  (81, .if_icmp .ge 7, 3, 88, [], [], []),
  (84, .iconst 1, 1, 0, [], [], []),
  (85, .goto 4, 3, 89, [], [], []),
  (88, .iconst 0, 1, 0, [], [], []),
  (89, .ishr, 1, 0, [], [], []),
  (90, .iconst 1, 1, 0, [], [], []),
  (91, .iand, 1, 0, [], [], []),
  (92, .ireturn, 1, 0, [], [], []),
  (93, .iinc 3 1, 3, 3, [], [], []),
  (96, .iinc 4 1, 3, 4, [], [], []),
  (99, .goto (-73), 3, 26, [], [], []),
  (102, .iconst (-1), 1, 0, [], [], []),
  (103, .ireturn, 1, 0, [], [], [])], [(26, [true, true, true, true, true, false])])
def mX12_save : sM := (4, 0, [
  (0, .iconst 0, 1, 0, [], [], []),
  (1, .istore_n 3, 1, 3, [], [], []),
  (2, .iload_n 3, 1, 3, [], [], []),
  (3, .sipush 3213, 3, 0, [], [], []),
  (6, .if_icmp .ge 24, 3, 30, [], [], []),
  (9, .aload_n 1, 1, 1, [], [], []),
  (10, .iload_n 2, 1, 2, [], [], []),
  (11, .iload_n 3, 1, 3, [], [], []),
  (12, .iadd, 1, 0, [], [], []),
  (13, .aload_n 0, 1, 0, [], [], []),
  (14, .getfield 98, 3, 2, [], [10, 14], []),
  (17, .sipush 2607, 3, 0, [], [], []),
  (20, .iload_n 3, 1, 3, [], [], []),
  (21, .iadd, 1, 0, [], [], []),
  (22, .iaload, 1, 0, [], [], []),
  (23, .iastore, 1, 0, [], [], []),
  (24, .iinc 3 1, 3, 3, [], [], []),
  (27, .goto (-25), 3, 2, [], [], []),
  (30, .return_, 1, 0, [], [], [])], [(2, [true, true, true, true])])
def mX12_comeBack : sM := (4, 0, [
  (0, .iconst 0, 1, 0, [], [], []),
  (1, .istore_n 3, 1, 3, [], [], []),
  (2, .iload_n 3, 1, 3, [], [], []),
  (3, .sipush 3213, 3, 0, [], [], []),
  (6, .if_icmp .ge 24, 3, 30, [], [], []),
  (9, .aload_n 0, 1, 0, [], [], []),
  (10, .getfield 98, 3, 2, [], [10, 14], []),
  (13, .sipush 2607, 3, 0, [], [], []),
  (16, .iload_n 3, 1, 3, [], [], []),
  (17, .iadd, 1, 0, [], [], []),
  (18, .aload_n 1, 1, 1, [], [], []),
  (19, .iload_n 2, 1, 2, [], [], []),
  (20, .iload_n 3, 1, 3, [], [], []),
  (21, .iadd, 1, 0, [], [], []),
  (22, .iaload, 1, 0, [], [], []),
  (23, .iastore, 1, 0, [], [], []),
  (24, .iinc 3 1, 3, 3, [], [], []),
  (27, .goto (-25), 3, 2, [], [], []),
  (30, .return_, 1, 0, [], [], [])], [(2, [true, true, true, true])])
def mX12_snap : sM := (2, 0, [
  (0, .aload_n 0, 1, 0, [], [], []),
  (1, .getfield 192, 3, 0, [], [10, 24], []),
  (4, .bipush 8, 2, 0, [], [], []),
  (6, .if_icmp .ne 44, 3, 50, [], [], []),
  (9, .iconst 0, 1, 0, [], [], []),
  (10, .istore_n 1, 1, 1, [], [], []),
  (11, .iload_n 1, 1, 1, [], [], []),
  (12, .sipush 22491, 3, 0, [], [], []),
  (15, .if_icmp .ge 25, 3, 40, [], [], []),
  (18, .aload_n 0, 1, 0, [], [], []),
  (19, .getfield 107, 3, 2, [], [10, 17], []),
  (22, .iload_n 1, 1, 1, [], [], []),
  (23, .aload_n 0, 1, 0, [], [], []),
  (24, .getfield 107, 3, 2, [], [10, 17], []),
  (27, .iload_n 1, 1, 1, [], [], []),
  (28, .sipush 3213, 3, 0, [], [], []),
  (31, .iadd, 1, 0, [], [], []),
  (32, .iaload, 1, 0, [], [], []),
  (33, .iastore, 1, 0, [], [], []),
  (34, .iinc 1 1, 3, 1, [], [], []),
  (37, .goto (-26), 3, 11, [], [], []),
  (40, .aload_n 0, 1, 0, [], [], []),
  (41, .dup, 1, 0, [], [], []),
  (42, .getfield 192, 3, 0, [], [10, 24], []),
  (45, .iconst 1, 1, 0, [], [], []),
  (46, .isub, 1, 0, [], [], []),
  (47, .putfield 192, 3, 0, [], [10, 24], []),
  (50, .aload_n 0, 1, 0, [], [], []),
  (51, .aload_n 0, 1, 0, [], [], []),
  (52, .getfield 107, 3, 2, [], [10, 17], []),
  (55, .sipush 3213, 3, 0, [], [], []),
  (58, .aload_n 0, 1, 0, [], [], []),
  (59, .getfield 192, 3, 0, [], [10, 24], []),
  (62, .imul, 1, 0, [], [], []),
  (63, .invokevirtual 288, 3, 230, [0, 2], [10], []),
  (66, .aload_n 0, 1, 0, [], [], []),
  (67, .dup, 1, 0, [], [], []),
  (68, .getfield 192, 3, 0, [], [10, 24], []),
  (71, .iconst 1, 1, 0, [], [], []),
  (72, .iadd, 1, 0, [], [], []),
  (73, .putfield 192, 3, 0, [], [10, 24], []),
  (76, .return_, 1, 0, [], [], [])], [(11, [true, true])])
def mX12_areThere : sM := (3, 4, [
  (0, .iload_n 0, 1, 0, [], [], []),
  (1, .ifCond .lt 19, 3, 20, [], [], []),
  (4, .iload_n 1, 1, 1, [], [], []),
  (5, .iload_n 2, 1, 2, [], [], []),
  (6, .if_icmp .gt 14, 3, 20, [], [], []),
  (9, .iload_n 0, 1, 0, [], [], []),
  (10, .iload_n 2, 1, 2, [], [], []),
  (11, .iload_n 1, 1, 1, [], [], []),
  (12, .isub, 1, 0, [], [], []),
  (13, .if_icmp .gt 7, 3, 20, [], [], []),
  (16, .iconst 1, 1, 0, [], [], []),
  (17, .goto 4, 3, 21, [], [], []),
  (20, .iconst 0, 1, 0, [], [], []),
  (21, .ireturn, 1, 0, [], [], [])], [])
def mX12_whyPut : sM := (4, 1, [
  (0, .iload_n 2, 1, 2, [], [], []),
  (1, .iconst 0, 1, 0, [], [], []),
  (2, .aload_n 0, 1, 0, [], [], []),
  (3, .iload_n 1, 1, 1, [], [], []),
  (4, .invokevirtual 199, 3, 180, [1, 1], [10], []),
  (7, .invokestatic 75, 3, 155, [4, 3], [], []),
  (10, .ifCond .ne 7, 3, 17, [], [], []),
  (13, .iconst 1, 1, 0, [], [], []),
  (14, .goto 21, 3, 35, [], [], []),
  (17, .aload_n 0, 1, 0, [], [], []),
  (18, .iload_n 1, 1, 1, [], [], []),
  (19, .invokevirtual 199, 3, 180, [1, 1], [10], []),
  (22, .iload_n 3, 1, 3, [], [], []),
  (23, .iadd, 1, 0, [], [], []),
  (24, .sipush 600, 3, 0, [], [], []),
  (27, .if_icmp .le 7, 3, 34, [], [], []),
  (30, .iconst 2, 1, 0, [], [], []),
  (31, .goto 4, 3, 35, [], [], []),
  (34, .iconst 0, 1, 0, [], [], []),
  (35, .ireturn, 1, 0, [], [], [])], [])
def mX12_refusal : sM := (5, 1, [
  (0, .iload_n 1, 1, 1, [], [], []),
  (1, .tableswitch 217 0 6 #[43, 51, 81, 81, 101, 138, 177], 43, 218, [], [], [(0, 44), (1, 52), (2, 82), (3, 82), (4, 102), (5, 139), (6, 178)]),
  (44, .aload_n 0, 1, 0, [], [], []),
  (45, .iload_n 2, 1, 2, [], [], []),
  (46, .iload_n 3, 1, 3, [], [], []),
  (47, .iconst 1, 1, 0, [], [], []),
  (48, .invokevirtual 292, 3, 234, [1, 3], [10], []),
  (51, .ireturn, 1, 0, [], [], []),
  (52, .aload_n 0, 1, 0, [], [], []),
  (53, .iload_n 2, 1, 2, [], [], []),
  (54, .iload_n 3, 1, 3, [], [], []),
  (55, .invokevirtual 218, 3, 190, [4, 2], [10], []),
  (58, .ifCond .ne 7, 3, 65, [], [], []),
  (61, .iconst 1, 1, 0, [], [], []),
  (62, .goto 19, 3, 81, [], [], []),
  (65, .aload_n 0, 1, 0, [], [], []),
  (66, .iload_n 2, 1, 2, [], [], []),
  (67, .iload_n 3, 1, 3, [], [], []),
  (68, .invokevirtual 212, 3, 181, [1, 2], [10], []),
  (71, .iload 4, 2, 4, [], [], []),
  (73, .if_icmp .ne 7, 3, 80, [], [], []),
  (76, .iconst 2, 1, 0, [], [], []),
  (77, .goto 4, 3, 81, [], [], []),
  (80, .iconst 0, 1, 0, [], [], []),
  (81, .ireturn, 1, 0, [], [], []),
  (82, .iload_n 3, 1, 3, [], [], []),
  (83, .iload 4, 2, 4, [], [], []),
  (85, .aload_n 0, 1, 0, [], [], []),
  (86, .iload_n 2, 1, 2, [], [], []),
  (87, .invokevirtual 199, 3, 180, [1, 1], [10], []),
  (90, .invokestatic 295, 3, 233, [4, 3], [], []),
  (93, .ifCond .eq 7, 3, 100, [], [], []),
  (96, .iconst 0, 1, 0, [], [], []),
  (97, .goto 4, 3, 101, [], [], []),
  (100, .iconst 1, 1, 0, [], [], []),
  (101, .ireturn, 1, 0, [], [], []),
  (102, .aload_n 0, 1, 0, [], [], []),
  (103, .iload 4, 2, 4, [], [], []),
  (105, .invokevirtual 199, 3, 180, [1, 1], [10], []),
  (108, .ifCond .ne 7, 3, 115, [], [], []),
  (111, .iconst 1, 1, 0, [], [], []),
  (112, .goto 26, 3, 138, [], [], []),
  (115, .aload_n 0, 1, 0, [], [], []),
  (116, .iload_n 2, 1, 2, [], [], []),
  (117, .invokevirtual 199, 3, 180, [1, 1], [10], []),
  (120, .aload_n 0, 1, 0, [], [], []),
  (121, .iload 4, 2, 4, [], [], []),
  (123, .invokevirtual 199, 3, 180, [1, 1], [10], []),
  (126, .iadd, 1, 0, [], [], []),
  (127, .sipush 600, 3, 0, [], [], []),
  (130, .if_icmp .le 7, 3, 137, [], [], []),
  (133, .iconst 2, 1, 0, [], [], []),
  (134, .goto 4, 3, 138, [], [], []),
  (137, .iconst 0, 1, 0, [], [], []),
  (138, .ireturn, 1, 0, [], [], []),
  (139, .aload_n 0, 1, 0, [], [], []),
  (140, .iload_n 2, 1, 2, [], [], []),
  (141, .iload_n 3, 1, 3, [], [], []),
  (142, .invokevirtual 218, 3, 190, [4, 2], [10], []),
  (145, .ifCond .ne 7, 3, 152, [], [], []),
  (148, .iconst 1, 1, 0, [], [], []),
  (149, .goto 28, 3, 177, [], [], []),
  (152, .aload_n 0, 1, 0, [], [], []),
  (153, .iload 4, 2, 4, [], [], []),
  (155, .invokevirtual 199, 3, 180, [1, 1], [10], []),
  (158, .aload_n 0, 1, 0, [], [], []),
  (159, .iload_n 2, 1, 2, [], [], []),
  (160, .invokevirtual 199, 3, 180, [1, 1], [10], []),
  (163, .iadd, 1, 0, [], [], []),
  (164, .iload_n 3, 1, 3, [], [], []),
  (165, .isub, 1, 0, [], [], []),
  (166, .sipush 600, 3, 0, [], [], []),
  (169, .if_icmp .le 7, 3, 176, [], [], []),
  (172, .iconst 2, 1, 0, [], [], []),
  (173, .goto 4, 3, 177, [], [], []),
  (176, .iconst 0, 1, 0, [], [], []),
  (177, .ireturn, 1, 0, [], [], []),
  (178, .iload_n 3, 1, 3, [], [], []),
  (179, .iconst 0, 1, 0, [], [], []),
  (180, .aload_n 0, 1, 0, [], [], []),
  (181, .getfield 98, 3, 2, [], [10, 14], []),
  (184, .sipush 2615, 3, 0, [], [], []),
  (187, .iaload, 1, 0, [], [], []),
  (188, .invokestatic 75, 3, 155, [4, 3], [], []),
  (191, .ifCond .ne 7, 3, 198, [], [], []),
  (194, .iconst 1, 1, 0, [], [], []),
  (195, .goto 22, 3, 217, [], [], []),
  (198, .aload_n 0, 1, 0, [], [], []),
  (199, .getfield 98, 3, 2, [], [10, 14], []),
  (202, .sipush 2615, 3, 0, [], [], []),
  (205, .iaload, 1, 0, [], [], []),
  (206, .sipush 200, 3, 0, [], [], []),
  (209, .if_icmp .ne 7, 3, 216, [], [], []),
  (212, .iconst 2, 1, 0, [], [], []),
  (213, .goto 4, 3, 217, [], [], []),
  (216, .iconst 0, 1, 0, [], [], []),
  (217, .ireturn, 1, 0, [], [], []),
  (218, .iload_n 3, 1, 3, [], [], []),
  (219, .iload 4, 2, 4, [], [], []),
  (221, .aload_n 0, 1, 0, [], [], []),
  (222, .getfield 98, 3, 2, [], [10, 14], []),
  (225, .sipush 2615, 3, 0, [], [], []),
  (228, .iaload, 1, 0, [], [], []),
  (229, .invokestatic 295, 3, 233, [4, 3], [], []),
  (232, .ifCond .eq 7, 3, 239, [], [], []),
  (235, .iconst 0, 1, 0, [], [], []),
  (236, .goto 4, 3, 240, [], [], []),
  (239, .iconst 1, 1, 0, [], [], []),
  (240, .ireturn, 1, 0, [], [], [])], [])
def mX12_live : sM := (6, 0, [
  (0, .iload_n 1, 1, 1, [], [], []),
  (1, .tableswitch 228 0 6 #[43, 52, 71, 94, 139, 148, 157], 43, 229, [], [], [(0, 44), (1, 53), (2, 72), (3, 95), (4, 140), (5, 149), (6, 158)]),
  (44, .aload_n 0, 1, 0, [], [], []),
  (45, .iload_n 2, 1, 2, [], [], []),
  (46, .iload_n 3, 1, 3, [], [], []),
  (47, .iload 4, 2, 4, [], [], []),
  (49, .invokevirtual 142, 3, 185, [0, 3], [10], []),
  (52, .return_, 1, 0, [], [], []),
  (53, .aload_n 0, 1, 0, [], [], []),
  (54, .getfield 98, 3, 2, [], [10, 14], []),
  (57, .sipush 3420, 3, 0, [], [], []),
  (60, .sipush 600, 3, 0, [], [], []),
  (63, .iload_n 2, 1, 2, [], [], []),
  (64, .imul, 1, 0, [], [], []),
  (65, .iadd, 1, 0, [], [], []),
  (66, .iload_n 3, 1, 3, [], [], []),
  (67, .iadd, 1, 0, [], [], []),
  (68, .iload 4, 2, 4, [], [], []),
  (70, .iastore, 1, 0, [], [], []),
  (71, .return_, 1, 0, [], [], []),
  (72, .iconst 0, 1, 0, [], [], []),
  (73, .istore 5, 2, 5, [], [], []),
  (75, .iload 5, 2, 5, [], [], []),
  (77, .iload 4, 2, 4, [], [], []),
  (79, .if_icmp .ge 15, 3, 94, [], [], []),
  (82, .aload_n 0, 1, 0, [], [], []),
  (83, .iload_n 2, 1, 2, [], [], []),
  (84, .iload_n 3, 1, 3, [], [], []),
  (85, .invokevirtual 298, 3, 187, [0, 2], [10], []),
  (88, .iinc 5 1, 3, 5, [], [], []),
  (91, .goto (-16), 3, 75, [], [], []),
  (94, .return_, 1, 0, [], [], []),
  (95, .iload_n 3, 1, 3, [], [], []),
  (96, .istore 5, 2, 5, [], [], []),
  (98, .iload 5, 2, 5, [], [], []),
  (100, .iload_n 3, 1, 3, [], [], []),
  (101, .iload 4, 2, 4, [], [], []),
  (103, .iadd, 1, 0, [], [], []),
  (104, .if_icmp .ge 35, 3, 139, [], [], []),
  (107, .aload_n 0, 1, 0, [], [], []),
  (108, .getfield 98, 3, 2, [], [10, 14], []),
  (111, .sipush 3420, 3, 0, [], [], []),
  (114, .sipush 600, 3, 0, [], [], []),
  (117, .iload_n 2, 1, 2, [], [], []),
  (118, .imul, 1, 0, [], [], []),
  (119, .iadd, 1, 0, [], [], []),
  (120, .iload 5, 2, 5, [], [], []),
  (122, .iadd, 1, 0, [], [], []),
  (123, .iconst 1, 1, 0, [], [], []),
  (124, .aload_n 0, 1, 0, [], [], []),
  (125, .iload_n 2, 1, 2, [], [], []),
  (126, .iload 5, 2, 5, [], [], []),
  (128, .invokevirtual 212, 3, 181, [1, 2], [10], []),
  (131, .isub, 1, 0, [], [], []),
  (132, .iastore, 1, 0, [], [], []),
  (133, .iinc 5 1, 3, 5, [], [], []),
  (136, .goto (-38), 3, 98, [], [], []),
  (139, .return_, 1, 0, [], [], []),
  (140, .aload_n 0, 1, 0, [], [], []),
  (141, .iload 4, 2, 4, [], [], []),
  (143, .iconst 0, 1, 0, [], [], []),
  (144, .iload_n 2, 1, 2, [], [], []),
  (145, .invokevirtual 301, 3, 237, [0, 3], [10], []),
  (148, .return_, 1, 0, [], [], []),
  (149, .aload_n 0, 1, 0, [], [], []),
  (150, .iload_n 2, 1, 2, [], [], []),
  (151, .iload_n 3, 1, 3, [], [], []),
  (152, .iload 4, 2, 4, [], [], []),
  (154, .invokevirtual 301, 3, 237, [0, 3], [10], []),
  (157, .return_, 1, 0, [], [], []),
  (158, .aload_n 0, 1, 0, [], [], []),
  (159, .getfield 98, 3, 2, [], [10, 14], []),
  (162, .sipush 2615, 3, 0, [], [], []),
  (165, .iaload, 1, 0, [], [], []),
  (166, .istore 5, 2, 5, [], [], []),
  (168, .iload 5, 2, 5, [], [], []),
  (170, .iload_n 3, 1, 3, [], [], []),
  (171, .if_icmp .le 33, 3, 204, [], [], []),
  (174, .aload_n 0, 1, 0, [], [], []),
  (175, .getfield 98, 3, 2, [], [10, 14], []),
  (178, .sipush 2616, 3, 0, [], [], []),
  (181, .iload 5, 2, 5, [], [], []),
  (183, .iadd, 1, 0, [], [], []),
  (184, .aload_n 0, 1, 0, [], [], []),
  (185, .getfield 98, 3, 2, [], [10, 14], []),
  (188, .sipush 2616, 3, 0, [], [], []),
  (191, .iload 5, 2, 5, [], [], []),
  (193, .iadd, 1, 0, [], [], []),
  (194, .iconst 1, 1, 0, [], [], []),
  (195, .isub, 1, 0, [], [], []),
  (196, .iaload, 1, 0, [], [], []),
  (197, .iastore, 1, 0, [], [], []),
  (198, .iinc 5 (-1), 3, 5, [], [], []),
  (201, .goto (-33), 3, 168, [], [], []),
  (204, .aload_n 0, 1, 0, [], [], []),
  (205, .getfield 98, 3, 2, [], [10, 14], []),
  (208, .sipush 2616, 3, 0, [], [], []),
  (211, .iload_n 3, 1, 3, [], [], []),
  (212, .iadd, 1, 0, [], [], []),
  (213, .iload 4, 2, 4, [], [], []),
  (215, .iastore, 1, 0, [], [], []),
  (216, .aload_n 0, 1, 0, [], [], []),
  (217, .getfield 98, 3, 2, [], [10, 14], []),
  (220, .sipush 2615, 3, 0, [], [], []),
  (223, .dup2, 1, 0, [], [], []),
  (224, .iaload, 1, 0, [], [], []),
  (225, .iconst 1, 1, 0, [], [], []),
  (226, .iadd, 1, 0, [], [], []),
  (227, .iastore, 1, 0, [], [], []),
  (228, .return_, 1, 0, [], [], []),
  (229, .aload_n 0, 1, 0, [], [], []),
  (230, .getfield 98, 3, 2, [], [10, 14], []),
  (233, .sipush 2615, 3, 0, [], [], []),
  (236, .dup2, 1, 0, [], [], []),
  (237, .iaload, 1, 0, [], [], []),
  (238, .iload 4, 2, 4, [], [], []),
  (240, .isub, 1, 0, [], [], []),
  (241, .iastore, 1, 0, [], [], []),
  (242, .iload_n 3, 1, 3, [], [], []),
  (243, .istore 5, 2, 5, [], [], []),
  (245, .iload 5, 2, 5, [], [], []),
  (247, .sipush 200, 3, 0, [], [], []),
  (250, .if_icmp .ge 51, 3, 301, [], [], []),
  (253, .aload_n 0, 1, 0, [], [], []),
  (254, .getfield 98, 3, 2, [], [10, 14], []),
  (257, .sipush 2616, 3, 0, [], [], []),
  (260, .iload 5, 2, 5, [], [], []),
  (262, .iadd, 1, 0, [], [], []),
  (263, .iload 5, 2, 5, [], [], []),
  (265, .aload_n 0, 1, 0, [], [], []),
  (266, .getfield 98, 3, 2, [], [10, 14], []),
  (269, .sipush 2615, 3, 0, [], [], []),
  (272, .iaload, 1, 0, [], [], []),
  (273, .if_icmp .ge 20, 3, 293, [], [], []),
  (276, .aload_n 0, 1, 0, [], [], []),
  (277, .getfield 98, 3, 2, [], [10, 14], []),
  (280, .sipush 2616, 3, 0, [], [], []),
  (283, .iload 5, 2, 5, [], [], []),
  (285, .iadd, 1, 0, [], [], []),
  (286, .iload 4, 2, 4, [], [], []),
  (288, .iadd, 1, 0, [], [], []),
  (289, .iaload, 1, 0, [], [], []),
  (290, .goto 4, 3, 294, [], [], []),
  (293, .iconst 0, 1, 0, [], [], []),
  (294, .iastore, 1, 0, [], [], []),
  (295, .iinc 5 1, 3, 5, [], [], []),
  (298, .goto (-53), 3, 245, [], [], []),
  (301, .return_, 1, 0, [], [], [])], [(75, [true, false, true, true, true, true]), (98, [true, false, true, true, true, true]), (168, [true, false, false, true, true, true]), (245, [true, false, false, false, true, true])])
def mX12_moves : sM := (6, 0, [
  (0, .aload_n 0, 1, 0, [], [], []),
  (1, .iload_n 1, 1, 1, [], [], []),
  (2, .invokevirtual 199, 3, 180, [1, 1], [10], []),
  (5, .iload_n 2, 1, 2, [], [], []),
  (6, .isub, 1, 0, [], [], []),
  (7, .istore 4, 2, 4, [], [], []),
  (9, .iconst 0, 1, 0, [], [], []),
  (10, .istore 5, 2, 5, [], [], []),
  (12, .iload 5, 2, 5, [], [], []),
  (14, .iload 4, 2, 4, [], [], []),
  (16, .if_icmp .ge 28, 3, 44, [], [], []),
  (19, .aload_n 0, 1, 0, [], [], []),
  (20, .iload_n 3, 1, 3, [], [], []),
  (21, .aload_n 0, 1, 0, [], [], []),
  (22, .iload_n 3, 1, 3, [], [], []),
  (23, .invokevirtual 199, 3, 180, [1, 1], [10], []),
  (26, .aload_n 0, 1, 0, [], [], []),
  (27, .iload_n 1, 1, 1, [], [], []),
  (28, .iload_n 2, 1, 2, [], [], []),
  (29, .iload 5, 2, 5, [], [], []),
  (31, .iadd, 1, 0, [], [], []),
  (32, .invokevirtual 212, 3, 181, [1, 2], [10], []),
  (35, .invokevirtual 142, 3, 185, [0, 3], [10], []),
  (38, .iinc 5 1, 3, 5, [], [], []),
  (41, .goto (-29), 3, 12, [], [], []),
  (44, .iconst 0, 1, 0, [], [], []),
  (45, .istore 5, 2, 5, [], [], []),
  (47, .iload 5, 2, 5, [], [], []),
  (49, .iload 4, 2, 4, [], [], []),
  (51, .if_icmp .ge 15, 3, 66, [], [], []),
  (54, .aload_n 0, 1, 0, [], [], []),
  (55, .iload_n 1, 1, 1, [], [], []),
  (56, .iload_n 2, 1, 2, [], [], []),
  (57, .invokevirtual 298, 3, 187, [0, 2], [10], []),
  (60, .iinc 5 1, 3, 5, [], [], []),
  (63, .goto (-16), 3, 47, [], [], []),
  (66, .return_, 1, 0, [], [], [])], [(12, [true, true, true, true, true, true]), (47, [true, true, true, false, true, true])])
def mX12_act : sM := (7, 1, [
  (0, .iload 5, 2, 5, [], [], []),
  (2, .ifCond .ne 5, 3, 7, [], [], []),
  (5, .iconst (-1), 1, 0, [], [], []),
  (6, .ireturn, 1, 0, [], [], []),
  (7, .aload_n 0, 1, 0, [], [], []),
  (8, .iload_n 1, 1, 1, [], [], []),
  (9, .iload_n 2, 1, 2, [], [], []),
  (10, .iload_n 3, 1, 3, [], [], []),
  (11, .iload 4, 2, 4, [], [], []),
  (13, .invokevirtual 304, 3, 235, [1, 4], [10], []),
  (16, .istore 6, 2, 6, [], [], []),
  (18, .iload 6, 2, 6, [], [], []),
  (20, .ifCond .eq 6, 3, 26, [], [], []),
  (23, .iload 6, 2, 6, [], [], []),
  (25, .ireturn, 1, 0, [], [], []),
  (26, .aload_n 0, 1, 0, [], [], []),
  (27, .invokevirtual 308, 3, 232, [0, 0], [10], []),
  (30, .aload_n 0, 1, 0, [], [], []),
  (31, .iload_n 1, 1, 1, [], [], []),
  (32, .iload_n 2, 1, 2, [], [], []),
  (33, .iload_n 3, 1, 3, [], [], []),
  (34, .iload 4, 2, 4, [], [], []),
  (36, .invokevirtual 311, 3, 236, [0, 4], [10], []),
  (39, .iconst 0, 1, 0, [], [], []),
  (40, .ireturn, 1, 0, [], [], [])], [])
def mX12_put : sM := (4, 1, [
  (0, .aload_n 0, 1, 0, [], [], []),
  (1, .iconst 0, 1, 0, [], [], []),
  (2, .putfield 1, 3, 0, [], [10, 0], []),
  (5, .aload_n 0, 1, 0, [], [], []),
  (6, .iconst 0, 1, 0, [], [], []),
  (7, .iload_n 1, 1, 1, [], [], []),
  (8, .iload_n 2, 1, 2, [], [], []),
  (9, .iload_n 3, 1, 3, [], [], []),
  (10, .aload_n 0, 1, 0, [], [], []),
  (11, .iload_n 1, 1, 1, [], [], []),
  (12, .invokevirtual 215, 3, 188, [4, 1], [10], []),
  (15, .ifCond .eq 15, 3, 30, [], [], []),
  (18, .aload_n 0, 1, 0, [], [], []),
  (19, .iload_n 3, 1, 3, [], [], []),
  (20, .invokevirtual 221, 3, 189, [4, 1], [10], []),
  (23, .ifCond .eq 7, 3, 30, [], [], []),
  (26, .iconst 1, 1, 0, [], [], []),
  (27, .goto 4, 3, 31, [], [], []),
  (30, .iconst 0, 1, 0, [], [], []),
  (31, .invokevirtual 315, 3, 238, [1, 5], [10], []),
  (34, .ireturn, 1, 0, [], [], [])], [])
def mX12_set : sM := (4, 1, [
  (0, .aload_n 0, 1, 0, [], [], []),
  (1, .iconst 0, 1, 0, [], [], []),
  (2, .putfield 1, 3, 0, [], [10, 0], []),
  (5, .aload_n 0, 1, 0, [], [], []),
  (6, .iconst 1, 1, 0, [], [], []),
  (7, .iload_n 1, 1, 1, [], [], []),
  (8, .iload_n 2, 1, 2, [], [], []),
  (9, .iload_n 3, 1, 3, [], [], []),
  (10, .aload_n 0, 1, 0, [], [], []),
  (11, .iload_n 1, 1, 1, [], [], []),
  (12, .invokevirtual 215, 3, 188, [4, 1], [10], []),
  (15, .ifCond .eq 15, 3, 30, [], [], []),
  (18, .aload_n 0, 1, 0, [], [], []),
  (19, .iload_n 3, 1, 3, [], [], []),
  (20, .invokevirtual 221, 3, 189, [4, 1], [10], []),
  (23, .ifCond .eq 7, 3, 30, [], [], []),
  (26, .iconst 1, 1, 0, [], [], []),
  (27, .goto 4, 3, 31, [], [], []),
  (30, .iconst 0, 1, 0, [], [], []),
  (31, .invokevirtual 315, 3, 238, [1, 5], [10], []),
  (34, .ireturn, 1, 0, [], [], [])], [])
def mX12_cut : sM := (4, 1, [
  (0, .aload_n 0, 1, 0, [], [], []),
  (1, .iconst 0, 1, 0, [], [], []),
  (2, .putfield 1, 3, 0, [], [10, 0], []),
  (5, .aload_n 0, 1, 0, [], [], []),
  (6, .iconst 2, 1, 0, [], [], []),
  (7, .iload_n 1, 1, 1, [], [], []),
  (8, .iload_n 2, 1, 2, [], [], []),
  (9, .iload_n 3, 1, 3, [], [], []),
  (10, .aload_n 0, 1, 0, [], [], []),
  (11, .iload_n 1, 1, 1, [], [], []),
  (12, .invokevirtual 215, 3, 188, [4, 1], [10], []),
  (15, .ifCond .eq 18, 3, 33, [], [], []),
  (18, .iload_n 3, 1, 3, [], [], []),
  (19, .iconst 1, 1, 0, [], [], []),
  (20, .sipush 600, 3, 0, [], [], []),
  (23, .invokestatic 75, 3, 155, [4, 3], [], []),
  (26, .ifCond .eq 7, 3, 33, [], [], []),
  (29, .iconst 1, 1, 0, [], [], []),
  (30, .goto 4, 3, 34, [], [], []),
  (33, .iconst 0, 1, 0, [], [], []),
  (34, .invokevirtual 315, 3, 238, [1, 5], [10], []),
  (37, .ireturn, 1, 0, [], [], [])], [])
def mX12_turn : sM := (4, 1, [
  (0, .aload_n 0, 1, 0, [], [], []),
  (1, .iconst 0, 1, 0, [], [], []),
  (2, .putfield 1, 3, 0, [], [10, 0], []),
  (5, .aload_n 0, 1, 0, [], [], []),
  (6, .iconst 3, 1, 0, [], [], []),
  (7, .iload_n 1, 1, 1, [], [], []),
  (8, .iload_n 2, 1, 2, [], [], []),
  (9, .iload_n 3, 1, 3, [], [], []),
  (10, .aload_n 0, 1, 0, [], [], []),
  (11, .iload_n 1, 1, 1, [], [], []),
  (12, .invokevirtual 215, 3, 188, [4, 1], [10], []),
  (15, .ifCond .eq 18, 3, 33, [], [], []),
  (18, .iload_n 3, 1, 3, [], [], []),
  (19, .iconst 1, 1, 0, [], [], []),
  (20, .sipush 600, 3, 0, [], [], []),
  (23, .invokestatic 75, 3, 155, [4, 3], [], []),
  (26, .ifCond .eq 7, 3, 33, [], [], []),
  (29, .iconst 1, 1, 0, [], [], []),
  (30, .goto 4, 3, 34, [], [], []),
  (33, .iconst 0, 1, 0, [], [], []),
  (34, .invokevirtual 315, 3, 238, [1, 5], [10], []),
  (37, .ireturn, 1, 0, [], [], [])], [])
def mX12_paste : sM := (6, 1, [
  (0, .aload_n 0, 1, 0, [], [], []),
  (1, .iconst 0, 1, 0, [], [], []),
  (2, .putfield 1, 3, 0, [], [10, 0], []),
  (5, .aload_n 0, 1, 0, [], [], []),
  (6, .invokevirtual 89, 3, 154, [1, 0], [10], []),
  (9, .istore_n 3, 1, 3, [], [], []),
  (10, .aload_n 0, 1, 0, [], [], []),
  (11, .iload_n 1, 1, 1, [], [], []),
  (12, .invokevirtual 215, 3, 188, [4, 1], [10], []),
  (15, .ifCond .eq 13, 3, 28, [], [], []),
  (18, .aload_n 0, 1, 0, [], [], []),
  (19, .iload_n 3, 1, 3, [], [], []),
  (20, .bipush 64, 2, 0, [], [], []),
  (22, .invokevirtual 273, 3, 219, [4, 2], [10], []),
  (25, .ifCond .ne 5, 3, 30, [], [], []),
  (28, .iconst (-1), 1, 0, [], [], []),
  (29, .ireturn, 1, 0, [], [], []),
  (30, .aload_n 0, 1, 0, [], [], []),
  (31, .iload_n 1, 1, 1, [], [], []),
  (32, .iload_n 2, 1, 2, [], [], []),
  (33, .iload_n 3, 1, 3, [], [], []),
  (34, .invokevirtual 292, 3, 234, [1, 3], [10], []),
  (37, .istore 4, 2, 4, [], [], []),
  (39, .iload 4, 2, 4, [], [], []),
  (41, .ifCond .eq 6, 3, 47, [], [], []),
  (44, .iload 4, 2, 4, [], [], []),
  (46, .ireturn, 1, 0, [], [], []),
  (47, .aload_n 0, 1, 0, [], [], []),
  (48, .invokevirtual 308, 3, 232, [0, 0], [10], []),
  (51, .iconst 0, 1, 0, [], [], []),
  (52, .istore 5, 2, 5, [], [], []),
  (54, .iload 5, 2, 5, [], [], []),
  (56, .iload_n 3, 1, 3, [], [], []),
  (57, .if_icmp .ge 25, 3, 82, [], [], []),
  (60, .aload_n 0, 1, 0, [], [], []),
  (61, .iload_n 1, 1, 1, [], [], []),
  (62, .iload_n 2, 1, 2, [], [], []),
  (63, .iload 5, 2, 5, [], [], []),
  (65, .iadd, 1, 0, [], [], []),
  (66, .aload_n 0, 1, 0, [], [], []),
  (67, .getfield 7, 3, 2, [], [10, 1], []),
  (70, .iload 5, 2, 5, [], [], []),
  (72, .iaload, 1, 0, [], [], []),
  (73, .invokevirtual 142, 3, 185, [0, 3], [10], []),
  (76, .iinc 5 1, 3, 5, [], [], []),
  (79, .goto (-25), 3, 54, [], [], []),
  (82, .iconst 0, 1, 0, [], [], []),
  (83, .ireturn, 1, 0, [], [], [])], [(54, [true, true, true, true, false, true])])
def mX12_areTwo : sM := (3, 4, [
  (0, .aload_n 0, 1, 0, [], [], []),
  (1, .iload_n 1, 1, 1, [], [], []),
  (2, .invokevirtual 215, 3, 188, [4, 1], [10], []),
  (5, .ifCond .eq 20, 3, 25, [], [], []),
  (8, .aload_n 0, 1, 0, [], [], []),
  (9, .iload_n 2, 1, 2, [], [], []),
  (10, .invokevirtual 215, 3, 188, [4, 1], [10], []),
  (13, .ifCond .eq 12, 3, 25, [], [], []),
  (16, .iload_n 1, 1, 1, [], [], []),
  (17, .iload_n 2, 1, 2, [], [], []),
  (18, .if_icmp .eq 7, 3, 25, [], [], []),
  (21, .iconst 1, 1, 0, [], [], []),
  (22, .goto 4, 3, 26, [], [], []),
  (25, .iconst 0, 1, 0, [], [], []),
  (26, .ireturn, 1, 0, [], [], [])], [])
def mX12_join : sM := (3, 1, [
  (0, .aload_n 0, 1, 0, [], [], []),
  (1, .iconst 0, 1, 0, [], [], []),
  (2, .putfield 1, 3, 0, [], [10, 0], []),
  (5, .aload_n 0, 1, 0, [], [], []),
  (6, .iconst 4, 1, 0, [], [], []),
  (7, .iload_n 1, 1, 1, [], [], []),
  (8, .iconst 0, 1, 0, [], [], []),
  (9, .iload_n 2, 1, 2, [], [], []),
  (10, .aload_n 0, 1, 0, [], [], []),
  (11, .iload_n 1, 1, 1, [], [], []),
  (12, .iload_n 2, 1, 2, [], [], []),
  (13, .invokevirtual 319, 3, 244, [4, 2], [10], []),
  (16, .invokevirtual 315, 3, 238, [1, 5], [10], []),
  (19, .ireturn, 1, 0, [], [], [])], [])
def mX12_split : sM := (4, 1, [
  (0, .aload_n 0, 1, 0, [], [], []),
  (1, .iconst 0, 1, 0, [], [], []),
  (2, .putfield 1, 3, 0, [], [10, 0], []),
  (5, .aload_n 0, 1, 0, [], [], []),
  (6, .iconst 5, 1, 0, [], [], []),
  (7, .iload_n 1, 1, 1, [], [], []),
  (8, .iload_n 2, 1, 2, [], [], []),
  (9, .iload_n 3, 1, 3, [], [], []),
  (10, .aload_n 0, 1, 0, [], [], []),
  (11, .iload_n 1, 1, 1, [], [], []),
  (12, .iload_n 3, 1, 3, [], [], []),
  (13, .invokevirtual 319, 3, 244, [4, 2], [10], []),
  (16, .invokevirtual 315, 3, 238, [1, 5], [10], []),
  (19, .ireturn, 1, 0, [], [], [])], [])
def mX12_type : sM := (3, 1, [
  (0, .aload_n 0, 1, 0, [], [], []),
  (1, .iconst 0, 1, 0, [], [], []),
  (2, .putfield 1, 3, 0, [], [10, 0], []),
  (5, .aload_n 0, 1, 0, [], [], []),
  (6, .bipush 6, 2, 0, [], [], []),
  (8, .iconst 0, 1, 0, [], [], []),
  (9, .iload_n 1, 1, 1, [], [], []),
  (10, .iload_n 2, 1, 2, [], [], []),
  (11, .iload_n 2, 1, 2, [], [], []),
  (12, .iconst 0, 1, 0, [], [], []),
  (13, .bipush 7, 2, 0, [], [], []),
  (15, .invokestatic 75, 3, 155, [4, 3], [], []),
  (18, .invokevirtual 315, 3, 238, [1, 5], [10], []),
  (21, .ireturn, 1, 0, [], [], [])], [])
def mX12_erase : sM := (3, 1, [
  (0, .aload_n 0, 1, 0, [], [], []),
  (1, .iconst 0, 1, 0, [], [], []),
  (2, .putfield 1, 3, 0, [], [10, 0], []),
  (5, .aload_n 0, 1, 0, [], [], []),
  (6, .bipush 7, 2, 0, [], [], []),
  (8, .iconst 0, 1, 0, [], [], []),
  (9, .iload_n 1, 1, 1, [], [], []),
  (10, .iload_n 2, 1, 2, [], [], []),
  (11, .iload_n 2, 1, 2, [], [], []),
  (12, .iconst 1, 1, 0, [], [], []),
  (13, .sipush 200, 3, 0, [], [], []),
  (16, .invokestatic 75, 3, 155, [4, 3], [], []),
  (19, .invokevirtual 315, 3, 238, [1, 5], [10], []),
  (22, .ireturn, 1, 0, [], [], [])], [])
def mX12_undo : sM := (1, 1, [
  (0, .aload_n 0, 1, 0, [], [], []),
  (1, .iconst 0, 1, 0, [], [], []),
  (2, .putfield 1, 3, 0, [], [10, 0], []),
  (5, .aload_n 0, 1, 0, [], [], []),
  (6, .getfield 192, 3, 0, [], [10, 24], []),
  (9, .ifCond .ne 5, 3, 14, [], [], []),
  (12, .iconst (-1), 1, 0, [], [], []),
  (13, .ireturn, 1, 0, [], [], []),
  (14, .aload_n 0, 1, 0, [], [], []),
  (15, .dup, 1, 0, [], [], []),
  (16, .getfield 192, 3, 0, [], [10, 24], []),
  (19, .iconst 1, 1, 0, [], [], []),
  (20, .isub, 1, 0, [], [], []),
  (21, .putfield 192, 3, 0, [], [10, 24], []),
  (24, .aload_n 0, 1, 0, [], [], []),
  (25, .aload_n 0, 1, 0, [], [], []),
  (26, .getfield 107, 3, 2, [], [10, 17], []),
  (29, .sipush 3213, 3, 0, [], [], []),
  (32, .aload_n 0, 1, 0, [], [], []),
  (33, .getfield 192, 3, 0, [], [10, 24], []),
  (36, .imul, 1, 0, [], [], []),
  (37, .invokevirtual 322, 3, 231, [0, 2], [10], []),
  (40, .aload_n 0, 1, 0, [], [], []),
  (41, .getfield 192, 3, 0, [], [10, 24], []),
  (44, .ireturn, 1, 0, [], [], [])], [])
def mX12_draw : sM := (2, 1, [
  (0, .aload_n 0, 1, 0, [], [], []),
  (1, .aload_n 0, 1, 0, [], [], []),
  (2, .getfield 325, 3, 0, [], [10, 29], []),
  (5, .ldc_w 328, 3, 0, [], [1103515245], []),
  (8, .imul, 1, 0, [], [], []),
  (9, .sipush 12345, 3, 0, [], [], []),
  (12, .iadd, 1, 0, [], [], []),
  (13, .putfield 325, 3, 0, [], [10, 29], []),
  (16, .aload_n 0, 1, 0, [], [], []),
  (17, .getfield 325, 3, 0, [], [10, 29], []),
  (20, .bipush 8, 2, 0, [], [], []),
  (22, .iushr, 1, 0, [], [], []),
  (23, .iload_n 1, 1, 1, [], [], []),
  (24, .irem, 1, 0, [], [], []),
  (25, .ireturn, 1, 0, [], [], [])], [])
def mX12_doIf : sM := (5, 4, [
  (0, .aload_n 0, 1, 0, [], [], []),
  (1, .iload_n 1, 1, 1, [], [], []),
  (2, .iload_n 2, 1, 2, [], [], []),
  (3, .iload_n 3, 1, 3, [], [], []),
  (4, .iload 4, 2, 4, [], [], []),
  (6, .invokevirtual 304, 3, 235, [1, 4], [10], []),
  (9, .ifCond .eq 5, 3, 14, [], [], []),
  (12, .iconst 0, 1, 0, [], [], []),
  (13, .ireturn, 1, 0, [], [], []),
  (14, .aload_n 0, 1, 0, [], [], []),
  (15, .iload_n 1, 1, 1, [], [], []),
  (16, .iload_n 2, 1, 2, [], [], []),
  (17, .iload_n 3, 1, 3, [], [], []),
  (18, .iload 4, 2, 4, [], [], []),
  (20, .invokevirtual 311, 3, 236, [0, 4], [10], []),
  (23, .iconst 1, 1, 0, [], [], []),
  (24, .ireturn, 1, 0, [], [], [])], [])
def mX12_drawsDeed : sM := (5, 4, [
  (0, .aload_n 0, 1, 0, [], [], []),
  (1, .bipush 8, 2, 0, [], [], []),
  (3, .invokevirtual 329, 3, 250, [1, 1], [10], []),
  (6, .istore_n 1, 1, 1, [], [], []),
  (7, .aload_n 0, 1, 0, [], [], []),
  (8, .aload_n 0, 1, 0, [], [], []),
  (9, .getfield 98, 3, 2, [], [10, 14], []),
  (12, .iconst 0, 1, 0, [], [], []),
  (13, .iaload, 1, 0, [], [], []),
  (14, .invokevirtual 329, 3, 250, [1, 1], [10], []),
  (17, .istore_n 2, 1, 2, [], [], []),
  (18, .aload_n 0, 1, 0, [], [], []),
  (19, .aload_n 0, 1, 0, [], [], []),
  (20, .iload_n 2, 1, 2, [], [], []),
  (21, .invokevirtual 199, 3, 180, [1, 1], [10], []),
  (24, .iconst 1, 1, 0, [], [], []),
  (25, .iadd, 1, 0, [], [], []),
  (26, .invokevirtual 329, 3, 250, [1, 1], [10], []),
  (29, .istore_n 3, 1, 3, [], [], []),
  (30, .iload_n 1, 1, 1, [], [], []),
  (31, .iconst 3, 1, 0, [], [], []),
  (32, .if_icmp .ge 16, 3, 48, [], [], []),
  (35, .aload_n 0, 1, 0, [], [], []),
  (36, .iconst 0, 1, 0, [], [], []),
  (37, .iload_n 2, 1, 2, [], [], []),
  (38, .iload_n 3, 1, 3, [], [], []),
  (39, .aload_n 0, 1, 0, [], [], []),
  (40, .iconst 2, 1, 0, [], [], []),
  (41, .invokevirtual 329, 3, 250, [1, 1], [10], []),
  (44, .invokevirtual 332, 3, 251, [4, 4], [10], []),
  (47, .ireturn, 1, 0, [], [], []),
  (48, .iload_n 1, 1, 1, [], [], []),
  (49, .iconst 3, 1, 0, [], [], []),
  (50, .if_icmp .ne 19, 3, 69, [], [], []),
  (53, .aload_n 0, 1, 0, [], [], []),
  (54, .iconst 2, 1, 0, [], [], []),
  (55, .iload_n 2, 1, 2, [], [], []),
  (56, .iload_n 3, 1, 3, [], [], []),
  (57, .aload_n 0, 1, 0, [], [], []),
  (58, .bipush 8, 2, 0, [], [], []),
  (60, .invokevirtual 329, 3, 250, [1, 1], [10], []),
  (63, .iconst 1, 1, 0, [], [], []),
  (64, .iadd, 1, 0, [], [], []),
  (65, .invokevirtual 332, 3, 251, [4, 4], [10], []),
  (68, .ireturn, 1, 0, [], [], []),
  (69, .iload_n 1, 1, 1, [], [], []),
  (70, .bipush 6, 2, 0, [], [], []),
  (72, .if_icmp .ge 19, 3, 91, [], [], []),
  (75, .aload_n 0, 1, 0, [], [], []),
  (76, .iconst 3, 1, 0, [], [], []),
  (77, .iload_n 2, 1, 2, [], [], []),
  (78, .iload_n 3, 1, 3, [], [], []),
  (79, .aload_n 0, 1, 0, [], [], []),
  (80, .bipush 40, 2, 0, [], [], []),
  (82, .invokevirtual 329, 3, 250, [1, 1], [10], []),
  (85, .iconst 1, 1, 0, [], [], []),
  (86, .iadd, 1, 0, [], [], []),
  (87, .invokevirtual 332, 3, 251, [4, 4], [10], []),
  (90, .ireturn, 1, 0, [], [], []),
  (91, .aload_n 0, 1, 0, [], [], []),
  (92, .aload_n 0, 1, 0, [], [], []),
  (93, .getfield 98, 3, 2, [], [10, 14], []),
  (96, .iconst 0, 1, 0, [], [], []),
  (97, .iaload, 1, 0, [], [], []),
  (98, .invokevirtual 329, 3, 250, [1, 1], [10], []),
  (101, .istore 4, 2, 4, [], [], []),
  (103, .iload 4, 2, 4, [], [], []),
  (105, .iload_n 2, 1, 2, [], [], []),
  (106, .if_icmp .eq 29, 3, 135, [], [], []),
  (109, .aload_n 0, 1, 0, [], [], []),
  (110, .iload_n 1, 1, 1, [], [], []),
  (111, .bipush 6, 2, 0, [], [], []),
  (113, .if_icmp .ne 7, 3, 120, [], [], []),
  (116, .iconst 4, 1, 0, [], [], []),
  (117, .goto 4, 3, 121, [], [], []),
  (120, .iconst 5, 1, 0, [], [], []),
  (121, .iload_n 2, 1, 2, [], [], []),
  (122, .iload_n 3, 1, 3, [], [], []),
  (123, .iload 4, 2, 4, [], [], []),
  (125, .invokevirtual 332, 3, 251, [4, 4], [10], []),
  (128, .ifCond .eq 7, 3, 135, [], [], []),
  (131, .iconst 1, 1, 0, [], [], []),
  (132, .goto 4, 3, 136, [], [], []),
  (135, .iconst 0, 1, 0, [], [], []),
  (136, .ireturn, 1, 0, [], [], [])], [])
def mX12_drawn : sM := (5, 1, [
  (0, .aload_n 0, 1, 0, [], [], []),
  (1, .iconst 0, 1, 0, [], [], []),
  (2, .putfield 1, 3, 0, [], [10, 0], []),
  (5, .iload_n 1, 1, 1, [], [], []),
  (6, .iconst 1, 1, 0, [], [], []),
  (7, .bipush 60, 2, 0, [], [], []),
  (9, .invokestatic 75, 3, 155, [4, 3], [], []),
  (12, .ifCond .ne 5, 3, 17, [], [], []),
  (15, .iconst (-1), 1, 0, [], [], []),
  (16, .ireturn, 1, 0, [], [], []),
  (17, .aload_n 0, 1, 0, [], [], []),
  (18, .getfield 98, 3, 2, [], [10, 14], []),
  (21, .iconst 0, 1, 0, [], [], []),
  (22, .iaload, 1, 0, [], [], []),
  (23, .ifCond .ne 5, 3, 28, [], [], []),
  (26, .iconst 0, 1, 0, [], [], []),
  (27, .ireturn, 1, 0, [], [], []),
  (28, .aload_n 0, 1, 0, [], [], []),
  (29, .aload_n 0, 1, 0, [], [], []),
  (30, .getfield 113, 3, 2, [], [10, 19], []),
  (33, .iconst 0, 1, 0, [], [], []),
  (34, .invokevirtual 288, 3, 230, [0, 2], [10], []),
  (37, .aload_n 0, 1, 0, [], [], []),
  (38, .iload_n 2, 1, 2, [], [], []),
  (39, .putfield 325, 3, 0, [], [10, 29], []),
  (42, .iconst 0, 1, 0, [], [], []),
  (43, .istore_n 3, 1, 3, [], [], []),
  (44, .iconst 0, 1, 0, [], [], []),
  (45, .istore 4, 2, 4, [], [], []),
  (47, .iload 4, 2, 4, [], [], []),
  (49, .iload_n 1, 1, 1, [], [], []),
  (50, .if_icmp .ge 19, 3, 69, [], [], []),
  (53, .aload_n 0, 1, 0, [], [], []),
  (54, .invokevirtual 336, 3, 252, [4, 0], [10], []),
  (57, .ifCond .eq 6, 3, 63, [], [], []),
  (60, .iinc 3 1, 3, 3, [], [], []),
  (63, .iinc 4 1, 3, 4, [], [], []),
  (66, .goto (-19), 3, 47, [], [], []),
  (69, .aload_n 0, 1, 0, [], [], []),
  (70, .iload_n 3, 1, 3, [], [], []),
  (71, .ifCond .le 7, 3, 78, [], [], []),
  (74, .iconst 1, 1, 0, [], [], []),
  (75, .goto 4, 3, 79, [], [], []),
  (78, .iconst 0, 1, 0, [], [], []),
  (79, .invokevirtual 339, 3, 261, [0, 1], [10], []),
  (82, .iload_n 3, 1, 3, [], [], []),
  (83, .ireturn, 1, 0, [], [], [])], [(47, [true, true, false, true, true])])
def mX12_keep : sM := (3, 4, [
  (0, .iload_n 2, 1, 2, [], [], []),
  (1, .ifCond .eq 13, 3, 14, [], [], []),
  (4, .aload_n 0, 1, 0, [], [], []),
  (5, .getfield 133, 3, 2, [], [10, 30], []),
  (8, .iload_n 1, 1, 1, [], [], []),
  (9, .aload_n 0, 1, 0, [], [], []),
  (10, .getfield 79, 3, 0, [], [10, 13], []),
  (13, .iastore, 1, 0, [], [], []),
  (14, .iload_n 2, 1, 2, [], [], []),
  (15, .ireturn, 1, 0, [], [], [])], [])
def mX12_readRowName : sM := (1, 4, [
  (0, .aload_n 0, 1, 0, [], [], []),
  (1, .invokevirtual 150, 3, 164, [4, 0], [10], []),
  (4, .ifCond .ne 9, 3, 13, [], [], []),
  (7, .aload_n 0, 1, 0, [], [], []),
  (8, .iconst 1, 1, 0, [], [], []),
  (9, .invokevirtual 72, 3, 165, [4, 1], [10], []),
  (12, .ireturn, 1, 0, [], [], []),
  (13, .aload_n 0, 1, 0, [], [], []),
  (14, .aload_n 0, 1, 0, [], [], []),
  (15, .getfield 116, 3, 2, [], [10, 20], []),
  (18, .aload_n 0, 1, 0, [], [], []),
  (19, .getfield 98, 3, 2, [], [10, 14], []),
  (22, .iconst 0, 1, 0, [], [], []),
  (23, .iaload, 1, 0, [], [], []),
  (24, .aload_n 0, 1, 0, [], [], []),
  (25, .getfield 43, 3, 1, [], [10, 12], []),
  (28, .invokestatic 154, 3, 171, [1, 3], [], []),
  (31, .putfield 79, 3, 0, [], [10, 13], []),
  (34, .aload_n 0, 1, 0, [], [], []),
  (35, .getfield 79, 3, 0, [], [10, 13], []),
  (38, .iconst (-1), 1, 0, [], [], []),
  (39, .if_icmp .ne 9, 3, 48, [], [], []),
  (42, .aload_n 0, 1, 0, [], [], []),
  (43, .iconst 3, 1, 0, [], [], []),
  (44, .invokevirtual 72, 3, 165, [4, 1], [10], []),
  (47, .ireturn, 1, 0, [], [], []),
  (48, .aload_n 0, 1, 0, [], [], []),
  (49, .invokevirtual 82, 3, 159, [0, 0], [10], []),
  (52, .iconst 1, 1, 0, [], [], []),
  (53, .ireturn, 1, 0, [], [], [])], [])
def mX12_readOther : sM := (2, 4, [
  (0, .aload_n 0, 1, 0, [], [], []),
  (1, .invokevirtual 150, 3, 164, [4, 0], [10], []),
  (4, .ifCond .ne 9, 3, 13, [], [], []),
  (7, .aload_n 0, 1, 0, [], [], []),
  (8, .iconst 1, 1, 0, [], [], []),
  (9, .invokevirtual 72, 3, 165, [4, 1], [10], []),
  (12, .ireturn, 1, 0, [], [], []),
  (13, .aload_n 0, 1, 0, [], [], []),
  (14, .getfield 133, 3, 2, [], [10, 30], []),
  (17, .iload_n 1, 1, 1, [], [], []),
  (18, .iconst 3, 1, 0, [], [], []),
  (19, .iadd, 1, 0, [], [], []),
  (20, .aload_n 0, 1, 0, [], [], []),
  (21, .getfield 116, 3, 2, [], [10, 20], []),
  (24, .aload_n 0, 1, 0, [], [], []),
  (25, .getfield 98, 3, 2, [], [10, 14], []),
  (28, .iconst 0, 1, 0, [], [], []),
  (29, .iaload, 1, 0, [], [], []),
  (30, .aload_n 0, 1, 0, [], [], []),
  (31, .getfield 43, 3, 1, [], [10, 12], []),
  (34, .invokestatic 154, 3, 171, [1, 3], [], []),
  (37, .iastore, 1, 0, [], [], []),
  (38, .aload_n 0, 1, 0, [], [], []),
  (39, .getfield 133, 3, 2, [], [10, 30], []),
  (42, .iload_n 1, 1, 1, [], [], []),
  (43, .iconst 3, 1, 0, [], [], []),
  (44, .iadd, 1, 0, [], [], []),
  (45, .iaload, 1, 0, [], [], []),
  (46, .iconst (-1), 1, 0, [], [], []),
  (47, .if_icmp .eq 22, 3, 69, [], [], []),
  (50, .aload_n 0, 1, 0, [], [], []),
  (51, .getfield 133, 3, 2, [], [10, 30], []),
  (54, .iload_n 1, 1, 1, [], [], []),
  (55, .iconst 3, 1, 0, [], [], []),
  (56, .iadd, 1, 0, [], [], []),
  (57, .iaload, 1, 0, [], [], []),
  (58, .aload_n 0, 1, 0, [], [], []),
  (59, .getfield 133, 3, 2, [], [10, 30], []),
  (62, .iload_n 1, 1, 1, [], [], []),
  (63, .iconst 1, 1, 0, [], [], []),
  (64, .iadd, 1, 0, [], [], []),
  (65, .iaload, 1, 0, [], [], []),
  (66, .if_icmp .ne 9, 3, 75, [], [], []),
  (69, .aload_n 0, 1, 0, [], [], []),
  (70, .iconst 3, 1, 0, [], [], []),
  (71, .invokevirtual 72, 3, 165, [4, 1], [10], []),
  (74, .ireturn, 1, 0, [], [], []),
  (75, .aload_n 0, 1, 0, [], [], []),
  (76, .invokevirtual 82, 3, 159, [0, 0], [10], []),
  (79, .iconst 1, 1, 0, [], [], []),
  (80, .ireturn, 1, 0, [], [], [])], [])
def mX12_readBookLine : sM := (4, 4, [
  (0, .iconst (-1), 1, 0, [], [], []),
  (1, .istore_n 1, 1, 1, [], [], []),
  (2, .iconst 0, 1, 0, [], [], []),
  (3, .istore_n 2, 1, 2, [], [], []),
  (4, .iload_n 2, 1, 2, [], [], []),
  (5, .bipush 7, 2, 0, [], [], []),
  (7, .if_icmp .gt 21, 3, 28, [], [], []),
  (10, .aload_n 0, 1, 0, [], [], []),
  (11, .iconst 3, 1, 0, [], [], []),
  (12, .iload_n 2, 1, 2, [], [], []),
  (13, .iadd, 1, 0, [], [], []),
  (14, .invokevirtual 168, 3, 162, [4, 1], [10], []),
  (17, .ifCond .eq 5, 3, 22, [], [], []),
  (20, .iload_n 2, 1, 2, [], [], []),
  (21, .istore_n 1, 1, 1, [], [], []),
  (22, .iinc 2 1, 3, 2, [], [], []),
  (25, .goto (-21), 3, 4, [], [], []),
  (28, .iload_n 1, 1, 1, [], [], []),
  (29, .iconst (-1), 1, 0, [], [], []),
  (30, .if_icmp .ne 9, 3, 39, [], [], []),
  (33, .aload_n 0, 1, 0, [], [], []),
  (34, .iconst 1, 1, 0, [], [], []),
  (35, .invokevirtual 72, 3, 165, [4, 1], [10], []),
  (38, .ireturn, 1, 0, [], [], []),
  (39, .aload_n 0, 1, 0, [], [], []),
  (40, .getfield 343, 3, 0, [], [10, 32], []),
  (43, .bipush 40, 2, 0, [], [], []),
  (45, .if_icmp .ne 9, 3, 54, [], [], []),
  (48, .aload_n 0, 1, 0, [], [], []),
  (49, .iconst 4, 1, 0, [], [], []),
  (50, .invokevirtual 72, 3, 165, [4, 1], [10], []),
  (53, .ireturn, 1, 0, [], [], []),
  (54, .iconst 4, 1, 0, [], [], []),
  (55, .aload_n 0, 1, 0, [], [], []),
  (56, .getfield 343, 3, 0, [], [10, 32], []),
  (59, .imul, 1, 0, [], [], []),
  (60, .istore_n 2, 1, 2, [], [], []),
  (61, .aload_n 0, 1, 0, [], [], []),
  (62, .getfield 133, 3, 2, [], [10, 30], []),
  (65, .iload_n 2, 1, 2, [], [], []),
  (66, .iload_n 1, 1, 1, [], [], []),
  (67, .iastore, 1, 0, [], [], []),
  (68, .aload_n 0, 1, 0, [], [], []),
  (69, .getfield 133, 3, 2, [], [10, 30], []),
  (72, .iload_n 2, 1, 2, [], [], []),
  (73, .iconst 1, 1, 0, [], [], []),
  (74, .iadd, 1, 0, [], [], []),
  (75, .iconst 0, 1, 0, [], [], []),
  (76, .iastore, 1, 0, [], [], []),
  (77, .aload_n 0, 1, 0, [], [], []),
  (78, .getfield 133, 3, 2, [], [10, 30], []),
  (81, .iload_n 2, 1, 2, [], [], []),
  (82, .iconst 2, 1, 0, [], [], []),
  (83, .iadd, 1, 0, [], [], []),
  (84, .iconst 0, 1, 0, [], [], []),
  (85, .iastore, 1, 0, [], [], []),
  (86, .aload_n 0, 1, 0, [], [], []),
  (87, .invokevirtual 82, 3, 159, [0, 0], [10], []),
  (90, .iload_n 1, 1, 1, [], [], []),
  (91, .bipush 6, 2, 0, [], [], []),
  (93, .if_icmp .ge 19, 3, 112, [], [], []),
  (96, .aload_n 0, 1, 0, [], [], []),
  (97, .iload_n 2, 1, 2, [], [], []),
  (98, .iconst 1, 1, 0, [], [], []),
  (99, .iadd, 1, 0, [], [], []),
  (100, .aload_n 0, 1, 0, [], [], []),
  (101, .invokevirtual 346, 3, 255, [4, 0], [10], []),
  (104, .invokevirtual 349, 3, 254, [4, 2], [10], []),
  (107, .ifCond .ne 5, 3, 112, [], [], []),
  (110, .iconst 0, 1, 0, [], [], []),
  (111, .ireturn, 1, 0, [], [], []),
  (112, .iload_n 1, 1, 1, [], [], []),
  (113, .iconst 4, 1, 0, [], [], []),
  (114, .if_icmp .eq 23, 3, 137, [], [], []),
  (117, .aload_n 0, 1, 0, [], [], []),
  (118, .iload_n 2, 1, 2, [], [], []),
  (119, .iconst 2, 1, 0, [], [], []),
  (120, .iadd, 1, 0, [], [], []),
  (121, .aload_n 0, 1, 0, [], [], []),
  (122, .iconst 0, 1, 0, [], [], []),
  (123, .sipush 999, 3, 0, [], [], []),
  (126, .invokevirtual 146, 3, 166, [4, 2], [10], []),
  (129, .invokevirtual 349, 3, 254, [4, 2], [10], []),
  (132, .ifCond .ne 5, 3, 137, [], [], []),
  (135, .iconst 0, 1, 0, [], [], []),
  (136, .ireturn, 1, 0, [], [], []),
  (137, .iload_n 1, 1, 1, [], [], []),
  (138, .iconst 4, 1, 0, [], [], []),
  (139, .if_icmp .eq 8, 3, 147, [], [], []),
  (142, .iload_n 1, 1, 1, [], [], []),
  (143, .iconst 5, 1, 0, [], [], []),
  (144, .if_icmp .ne 24, 3, 168, [], [], []),
  (147, .aload_n 0, 1, 0, [], [], []),
  (148, .iload_n 2, 1, 2, [], [], []),
  (149, .invokevirtual 353, 3, 256, [4, 1], [10], []),
  (152, .ifCond .eq 14, 3, 166, [], [], []),
  (155, .aload_n 0, 1, 0, [], [], []),
  (156, .invokevirtual 186, 3, 167, [4, 0], [10], []),
  (159, .ifCond .eq 7, 3, 166, [], [], []),
  (162, .iconst 1, 1, 0, [], [], []),
  (163, .goto 4, 3, 167, [], [], []),
  (166, .iconst 0, 1, 0, [], [], []),
  (167, .ireturn, 1, 0, [], [], []),
  (168, .iload_n 1, 1, 1, [], [], []),
  (169, .iconst 2, 1, 0, [], [], []),
  (170, .if_icmp .eq 14, 3, 184, [], [], []),
  (173, .iload_n 1, 1, 1, [], [], []),
  (174, .iconst 3, 1, 0, [], [], []),
  (175, .if_icmp .eq 9, 3, 184, [], [], []),
  (178, .iload_n 1, 1, 1, [], [], []),
  (179, .bipush 7, 2, 0, [], [], []),
  (181, .if_icmp .ne 7, 3, 188, [], [], []),
  (184, .iconst 1, 1, 0, [], [], []),
  (185, .goto 4, 3, 189, [], [], []),
  (188, .iconst 0, 1, 0, [], [], []),
  (189, .istore_n 3, 1, 3, [], [], []),
  (190, .aload_n 0, 1, 0, [], [], []),
  (191, .iload_n 2, 1, 2, [], [], []),
  (192, .iconst 3, 1, 0, [], [], []),
  (193, .iadd, 1, 0, [], [], []),
  (194, .iload_n 3, 1, 3, [], [], []),
  (195, .ifCond .eq 14, 3, 209, [], [], []),
  (198, .aload_n 0, 1, 0, [], [], []),
  (199, .iconst 1, 1, 0, [], [], []),
  (200, .sipush 600, 3, 0, [], [], []),
  (203, .invokevirtual 146, 3, 166, [4, 2], [10], []),
  (206, .goto 20, 3, 226, [], [], []),
  (209, .aload_n 0, 1, 0, [], [], []),
  (210, .iconst 0, 1, 0, [], [], []),
  (211, .iload_n 1, 1, 1, [], [], []),
  (212, .bipush 6, 2, 0, [], [], []),
  (214, .if_icmp .ne 8, 3, 222, [], [], []),
  (217, .bipush 7, 2, 0, [], [], []),
  (219, .goto 4, 3, 223, [], [], []),
  (222, .iconst 1, 1, 0, [], [], []),
  (223, .invokevirtual 146, 3, 166, [4, 2], [10], []),
  (226, .invokevirtual 349, 3, 254, [4, 2], [10], []),
  (229, .ifCond .eq 14, 3, 243, [], [], []),
  (232, .aload_n 0, 1, 0, [], [], []),
  (233, .invokevirtual 186, 3, 167, [4, 0], [10], []),
  (236, .ifCond .eq 7, 3, 243, [], [], []),
  (239, .iconst 1, 1, 0, [], [], []),
  (240, .goto 4, 3, 244, [], [], []),
  (243, .iconst 0, 1, 0, [], [], []),
  (244, .ireturn, 1, 0, [], [], [])], [(4, [true, true, true, false]), (137, [true, true, true, false]), (189, [true, true, true, false])])
def mX12_goBy : sM := (4, 1, [
  (0, .aload_n 0, 1, 0, [], [], []),
  (1, .getfield 133, 3, 2, [], [10, 30], []),
  (4, .iload_n 1, 1, 1, [], [], []),
  (5, .iaload, 1, 0, [], [], []),
  (6, .istore_n 2, 1, 2, [], [], []),
  (7, .aload_n 0, 1, 0, [], [], []),
  (8, .iload_n 2, 1, 2, [], [], []),
  (9, .aload_n 0, 1, 0, [], [], []),
  (10, .getfield 133, 3, 2, [], [10, 30], []),
  (13, .iload_n 1, 1, 1, [], [], []),
  (14, .iconst 1, 1, 0, [], [], []),
  (15, .iadd, 1, 0, [], [], []),
  (16, .iaload, 1, 0, [], [], []),
  (17, .aload_n 0, 1, 0, [], [], []),
  (18, .getfield 133, 3, 2, [], [10, 30], []),
  (21, .iload_n 1, 1, 1, [], [], []),
  (22, .iconst 2, 1, 0, [], [], []),
  (23, .iadd, 1, 0, [], [], []),
  (24, .iaload, 1, 0, [], [], []),
  (25, .aload_n 0, 1, 0, [], [], []),
  (26, .getfield 133, 3, 2, [], [10, 30], []),
  (29, .iload_n 1, 1, 1, [], [], []),
  (30, .iconst 3, 1, 0, [], [], []),
  (31, .iadd, 1, 0, [], [], []),
  (32, .iaload, 1, 0, [], [], []),
  (33, .invokevirtual 304, 3, 235, [1, 4], [10], []),
  (36, .istore_n 3, 1, 3, [], [], []),
  (37, .iload_n 3, 1, 3, [], [], []),
  (38, .ifCond .eq 10, 3, 48, [], [], []),
  (41, .bipush 10, 2, 0, [], [], []),
  (43, .iload_n 2, 1, 2, [], [], []),
  (44, .imul, 1, 0, [], [], []),
  (45, .iload_n 3, 1, 3, [], [], []),
  (46, .iadd, 1, 0, [], [], []),
  (47, .ireturn, 1, 0, [], [], []),
  (48, .aload_n 0, 1, 0, [], [], []),
  (49, .iload_n 2, 1, 2, [], [], []),
  (50, .aload_n 0, 1, 0, [], [], []),
  (51, .getfield 133, 3, 2, [], [10, 30], []),
  (54, .iload_n 1, 1, 1, [], [], []),
  (55, .iconst 1, 1, 0, [], [], []),
  (56, .iadd, 1, 0, [], [], []),
  (57, .iaload, 1, 0, [], [], []),
  (58, .aload_n 0, 1, 0, [], [], []),
  (59, .getfield 133, 3, 2, [], [10, 30], []),
  (62, .iload_n 1, 1, 1, [], [], []),
  (63, .iconst 2, 1, 0, [], [], []),
  (64, .iadd, 1, 0, [], [], []),
  (65, .iaload, 1, 0, [], [], []),
  (66, .aload_n 0, 1, 0, [], [], []),
  (67, .getfield 133, 3, 2, [], [10, 30], []),
  (70, .iload_n 1, 1, 1, [], [], []),
  (71, .iconst 3, 1, 0, [], [], []),
  (72, .iadd, 1, 0, [], [], []),
  (73, .iaload, 1, 0, [], [], []),
  (74, .invokevirtual 311, 3, 236, [0, 4], [10], []),
  (77, .iconst 0, 1, 0, [], [], []),
  (78, .ireturn, 1, 0, [], [], [])], [])
def mX12_allBits : sM := (3, 1, [
  (0, .iconst 0, 1, 0, [], [], []),
  (1, .istore_n 1, 1, 1, [], [], []),
  (2, .iconst 0, 1, 0, [], [], []),
  (3, .istore_n 2, 1, 2, [], [], []),
  (4, .iload_n 2, 1, 2, [], [], []),
  (5, .aload_n 0, 1, 0, [], [], []),
  (6, .getfield 98, 3, 2, [], [10, 14], []),
  (9, .iconst 0, 1, 0, [], [], []),
  (10, .iaload, 1, 0, [], [], []),
  (11, .if_icmp .ge 17, 3, 28, [], [], []),
  (14, .iload_n 1, 1, 1, [], [], []),
  (15, .aload_n 0, 1, 0, [], [], []),
  (16, .iload_n 2, 1, 2, [], [], []),
  (17, .invokevirtual 199, 3, 180, [1, 1], [10], []),
  (20, .iadd, 1, 0, [], [], []),
  (21, .istore_n 1, 1, 1, [], [], []),
  (22, .iinc 2 1, 3, 2, [], [], []),
  (25, .goto (-21), 3, 4, [], [], []),
  (28, .iload_n 1, 1, 1, [], [], []),
  (29, .ireturn, 1, 0, [], [], [])], [(4, [true, true, true])])
def mX12_book : sM := (4, 1, [
  (0, .aload_n 0, 1, 0, [], [], []),
  (1, .iconst 0, 1, 0, [], [], []),
  (2, .putfield 1, 3, 0, [], [10, 0], []),
  (5, .iload_n 1, 1, 1, [], [], []),
  (6, .iconst 0, 1, 0, [], [], []),
  (7, .iconst 1, 1, 0, [], [], []),
  (8, .invokestatic 75, 3, 155, [4, 3], [], []),
  (11, .ifCond .ne 7, 3, 18, [], [], []),
  (14, .sipush (-1000), 3, 0, [], [], []),
  (17, .ireturn, 1, 0, [], [], []),
  (18, .aload_n 0, 1, 0, [], [], []),
  (19, .sipush 400, 3, 0, [], [], []),
  (22, .invokevirtual 180, 3, 168, [0, 1], [10], []),
  (25, .aload_n 0, 1, 0, [], [], []),
  (26, .iconst 0, 1, 0, [], [], []),
  (27, .putfield 343, 3, 0, [], [10, 32], []),
  (30, .aload_n 0, 1, 0, [], [], []),
  (31, .getfield 30, 3, 0, [], [10, 7], []),
  (34, .ifCond .eq 31, 3, 65, [], [], []),
  (37, .aload_n 0, 1, 0, [], [], []),
  (38, .invokevirtual 356, 3, 257, [4, 0], [10], []),
  (41, .ifCond .ne 11, 3, 52, [], [], []),
  (44, .bipush (-2), 2, 0, [], [], []),
  (46, .aload_n 0, 1, 0, [], [], []),
  (47, .getfield 69, 3, 0, [], [10, 11], []),
  (50, .isub, 1, 0, [], [], []),
  (51, .ireturn, 1, 0, [], [], []),
  (52, .aload_n 0, 1, 0, [], [], []),
  (53, .dup, 1, 0, [], [], []),
  (54, .getfield 343, 3, 0, [], [10, 32], []),
  (57, .iconst 1, 1, 0, [], [], []),
  (58, .iadd, 1, 0, [], [], []),
  (59, .putfield 343, 3, 0, [], [10, 32], []),
  (62, .goto (-32), 3, 30, [], [], []),
  (65, .aload_n 0, 1, 0, [], [], []),
  (66, .aload_n 0, 1, 0, [], [], []),
  (67, .getfield 113, 3, 2, [], [10, 19], []),
  (70, .iconst 0, 1, 0, [], [], []),
  (71, .invokevirtual 288, 3, 230, [0, 2], [10], []),
  (74, .iconst 0, 1, 0, [], [], []),
  (75, .istore_n 2, 1, 2, [], [], []),
  (76, .iconst 0, 1, 0, [], [], []),
  (77, .istore_n 3, 1, 3, [], [], []),
  (78, .iload_n 2, 1, 2, [], [], []),
  (79, .aload_n 0, 1, 0, [], [], []),
  (80, .getfield 343, 3, 0, [], [10, 32], []),
  (83, .if_icmp .ge 25, 3, 108, [], [], []),
  (86, .iload_n 3, 1, 3, [], [], []),
  (87, .ifCond .ne 21, 3, 108, [], [], []),
  (90, .aload_n 0, 1, 0, [], [], []),
  (91, .iconst 4, 1, 0, [], [], []),
  (92, .iload_n 2, 1, 2, [], [], []),
  (93, .imul, 1, 0, [], [], []),
  (94, .invokevirtual 359, 3, 258, [1, 1], [10], []),
  (97, .istore_n 3, 1, 3, [], [], []),
  (98, .iload_n 3, 1, 3, [], [], []),
  (99, .ifCond .ne (-21), 3, 78, [], [], []),
  (102, .iinc 2 1, 3, 2, [], [], []),
  (105, .goto (-27), 3, 78, [], [], []),
  (108, .aload_n 0, 1, 0, [], [], []),
  (109, .getfield 136, 3, 2, [], [10, 31], []),
  (112, .iconst 0, 1, 0, [], [], []),
  (113, .iload_n 3, 1, 3, [], [], []),
  (114, .iastore, 1, 0, [], [], []),
  (115, .aload_n 0, 1, 0, [], [], []),
  (116, .getfield 136, 3, 2, [], [10, 31], []),
  (119, .iconst 1, 1, 0, [], [], []),
  (120, .iload_n 2, 1, 2, [], [], []),
  (121, .iastore, 1, 0, [], [], []),
  (122, .aload_n 0, 1, 0, [], [], []),
  (123, .getfield 136, 3, 2, [], [10, 31], []),
  (126, .iconst 2, 1, 0, [], [], []),
  (127, .aload_n 0, 1, 0, [], [], []),
  (128, .invokevirtual 362, 3, 259, [1, 0], [10], []),
  (131, .iastore, 1, 0, [], [], []),
  (132, .aload_n 0, 1, 0, [], [], []),
  (133, .getfield 136, 3, 2, [], [10, 31], []),
  (136, .iconst 3, 1, 0, [], [], []),
  (137, .aload_n 0, 1, 0, [], [], []),
  (138, .getfield 98, 3, 2, [], [10, 14], []),
  (141, .sipush 2615, 3, 0, [], [], []),
  (144, .iaload, 1, 0, [], [], []),
  (145, .iastore, 1, 0, [], [], []),
  (146, .aload_n 0, 1, 0, [], [], []),
  (147, .iconst 1, 1, 0, [], [], []),
  (148, .putfield 365, 3, 3, [], [10, 33], []),
  (151, .aload_n 0, 1, 0, [], [], []),
  (152, .iload_n 1, 1, 1, [], [], []),
  (153, .iconst 1, 1, 0, [], [], []),
  (154, .if_icmp .ne 11, 3, 165, [], [], []),
  (157, .iload_n 2, 1, 2, [], [], []),
  (158, .ifCond .le 7, 3, 165, [], [], []),
  (161, .iconst 1, 1, 0, [], [], []),
  (162, .goto 4, 3, 166, [], [], []),
  (165, .iconst 0, 1, 0, [], [], []),
  (166, .invokevirtual 339, 3, 261, [0, 1], [10], []),
  (169, .iload_n 3, 1, 3, [], [], []),
  (170, .ifCond .ne 7, 3, 177, [], [], []),
  (173, .iconst (-1), 1, 0, [], [], []),
  (174, .goto 4, 3, 178, [], [], []),
  (177, .iload_n 2, 1, 2, [], [], []),
  (178, .ireturn, 1, 0, [], [], [])], [(30, [true, true, false, false]), (78, [true, true, true, true])])
def mX12_stay : sM := (2, 0, [
  (0, .aload_n 0, 1, 0, [], [], []),
  (1, .aload_n 0, 1, 0, [], [], []),
  (2, .getfield 110, 3, 2, [], [10, 18], []),
  (5, .iconst 0, 1, 0, [], [], []),
  (6, .invokevirtual 288, 3, 230, [0, 2], [10], []),
  (9, .aload_n 0, 1, 0, [], [], []),
  (10, .aload_n 0, 1, 0, [], [], []),
  (11, .getfield 113, 3, 2, [], [10, 19], []),
  (14, .iconst 0, 1, 0, [], [], []),
  (15, .invokevirtual 322, 3, 231, [0, 2], [10], []),
  (18, .iload_n 1, 1, 1, [], [], []),
  (19, .ifCond .ne 4, 3, 23, [], [], []),
  (22, .return_, 1, 0, [], [], []),
  (23, .aload_n 0, 1, 0, [], [], []),
  (24, .invokevirtual 308, 3, 232, [0, 0], [10], []),
  (27, .aload_n 0, 1, 0, [], [], []),
  (28, .aload_n 0, 1, 0, [], [], []),
  (29, .getfield 110, 3, 2, [], [10, 18], []),
  (32, .iconst 0, 1, 0, [], [], []),
  (33, .invokevirtual 322, 3, 231, [0, 2], [10], []),
  (36, .return_, 1, 0, [], [], [])], [])
def mX12_told : sM := (2, 1, [
  (0, .aload_n 0, 1, 0, [], [], []),
  (1, .iconst 0, 1, 0, [], [], []),
  (2, .putfield 1, 3, 0, [], [10, 0], []),
  (5, .aload_n 0, 1, 0, [], [], []),
  (6, .getfield 365, 3, 3, [], [10, 33], []),
  (9, .ifCond .eq 21, 3, 30, [], [], []),
  (12, .iload_n 1, 1, 1, [], [], []),
  (13, .iconst 0, 1, 0, [], [], []),
  (14, .iconst 3, 1, 0, [], [], []),
  (15, .invokestatic 75, 3, 155, [4, 3], [], []),
  (18, .ifCond .eq 12, 3, 30, [], [], []),
  (21, .aload_n 0, 1, 0, [], [], []),
  (22, .getfield 136, 3, 2, [], [10, 31], []),
  (25, .iload_n 1, 1, 1, [], [], []),
  (26, .iaload, 1, 0, [], [], []),
  (27, .goto 4, 3, 31, [], [], []),
  (30, .iconst (-1), 1, 0, [], [], []),
  (31, .ireturn, 1, 0, [], [], [])], [])
def mX12_beginsWith : sM := (3, 4, [
  (0, .aload_n 0, 1, 0, [], [], []),
  (1, .iload_n 2, 1, 2, [], [], []),
  (2, .invokevirtual 199, 3, 180, [1, 1], [10], []),
  (5, .aload_n 0, 1, 0, [], [], []),
  (6, .iload_n 1, 1, 1, [], [], []),
  (7, .invokevirtual 199, 3, 180, [1, 1], [10], []),
  (10, .if_icmp .gt 21, 3, 31, [], [], []),
  (13, .aload_n 0, 1, 0, [], [], []),
  (14, .iload_n 1, 1, 1, [], [], []),
  (15, .iload_n 2, 1, 2, [], [], []),
  (16, .invokevirtual 267, 3, 214, [1, 2], [10], []),
  (19, .aload_n 0, 1, 0, [], [], []),
  (20, .iload_n 2, 1, 2, [], [], []),
  (21, .invokevirtual 199, 3, 180, [1, 1], [10], []),
  (24, .if_icmp .ne 7, 3, 31, [], [], []),
  (27, .iconst 1, 1, 0, [], [], []),
  (28, .goto 4, 3, 32, [], [], []),
  (31, .iconst 0, 1, 0, [], [], []),
  (32, .ireturn, 1, 0, [], [], [])], [])
def mX12_onesOf : sM := (2, 1, [
  (0, .aload_n 0, 1, 0, [], [], []),
  (1, .iload_n 1, 1, 1, [], [], []),
  (2, .iconst 0, 1, 0, [], [], []),
  (3, .aload_n 0, 1, 0, [], [], []),
  (4, .iload_n 1, 1, 1, [], [], []),
  (5, .invokevirtual 199, 3, 180, [1, 1], [10], []),
  (8, .invokevirtual 224, 3, 191, [1, 3], [10], []),
  (11, .ireturn, 1, 0, [], [], [])], [])
def mX12_saysOne : sM := (6, 1, [
  (0, .iconst 4, 1, 0, [], [], []),
  (1, .aload_n 0, 1, 0, [], [], []),
  (2, .getfield 368, 3, 0, [], [10, 35], []),
  (5, .imul, 1, 0, [], [], []),
  (6, .istore 5, 2, 5, [], [], []),
  (8, .aload_n 0, 1, 0, [], [], []),
  (9, .getfield 139, 3, 2, [], [10, 34], []),
  (12, .iload 5, 2, 5, [], [], []),
  (14, .iload_n 1, 1, 1, [], [], []),
  (15, .iastore, 1, 0, [], [], []),
  (16, .aload_n 0, 1, 0, [], [], []),
  (17, .getfield 139, 3, 2, [], [10, 34], []),
  (20, .iload 5, 2, 5, [], [], []),
  (22, .iconst 1, 1, 0, [], [], []),
  (23, .iadd, 1, 0, [], [], []),
  (24, .iload_n 2, 1, 2, [], [], []),
  (25, .iastore, 1, 0, [], [], []),
  (26, .aload_n 0, 1, 0, [], [], []),
  (27, .getfield 139, 3, 2, [], [10, 34], []),
  (30, .iload 5, 2, 5, [], [], []),
  (32, .iconst 2, 1, 0, [], [], []),
  (33, .iadd, 1, 0, [], [], []),
  (34, .iload_n 3, 1, 3, [], [], []),
  (35, .iastore, 1, 0, [], [], []),
  (36, .aload_n 0, 1, 0, [], [], []),
  (37, .getfield 139, 3, 2, [], [10, 34], []),
  (40, .iload 5, 2, 5, [], [], []),
  (42, .iconst 3, 1, 0, [], [], []),
  (43, .iadd, 1, 0, [], [], []),
  (44, .iload 4, 2, 4, [], [], []),
  (46, .iastore, 1, 0, [], [], []),
  (47, .aload_n 0, 1, 0, [], [], []),
  (48, .dup, 1, 0, [], [], []),
  (49, .getfield 368, 3, 0, [], [10, 35], []),
  (52, .iconst 1, 1, 0, [], [], []),
  (53, .iadd, 1, 0, [], [], []),
  (54, .putfield 368, 3, 0, [], [10, 35], []),
  (57, .aload_n 0, 1, 0, [], [], []),
  (58, .getfield 368, 3, 0, [], [10, 35], []),
  (61, .iconst 1, 1, 0, [], [], []),
  (62, .isub, 1, 0, [], [], []),
  (63, .ireturn, 1, 0, [], [], [])], [])
def mX12_readOr : sM := (2, 4, [
  (0, .aload_n 0, 1, 0, [], [], []),
  (1, .invokevirtual 371, 3, 267, [4, 0], [10], []),
  (4, .ifCond .ne 5, 3, 9, [], [], []),
  (7, .iconst 0, 1, 0, [], [], []),
  (8, .ireturn, 1, 0, [], [], []),
  (9, .aload_n 0, 1, 0, [], [], []),
  (10, .getfield 374, 3, 0, [], [10, 38], []),
  (13, .istore_n 1, 1, 1, [], [], []),
  (14, .aload_n 0, 1, 0, [], [], []),
  (15, .bipush 11, 2, 0, [], [], []),
  (17, .invokevirtual 168, 3, 162, [4, 1], [10], []),
  (20, .ifCond .eq 31, 3, 51, [], [], []),
  (23, .aload_n 0, 1, 0, [], [], []),
  (24, .invokevirtual 82, 3, 159, [0, 0], [10], []),
  (27, .aload_n 0, 1, 0, [], [], []),
  (28, .invokevirtual 371, 3, 267, [4, 0], [10], []),
  (31, .ifCond .ne 5, 3, 36, [], [], []),
  (34, .iconst 0, 1, 0, [], [], []),
  (35, .ireturn, 1, 0, [], [], []),
  (36, .aload_n 0, 1, 0, [], [], []),
  (37, .iconst 3, 1, 0, [], [], []),
  (38, .iload_n 1, 1, 1, [], [], []),
  (39, .aload_n 0, 1, 0, [], [], []),
  (40, .getfield 374, 3, 0, [], [10, 38], []),
  (43, .iconst 0, 1, 0, [], [], []),
  (44, .invokevirtual 377, 3, 265, [1, 4], [10], []),
  (47, .istore_n 1, 1, 1, [], [], []),
  (48, .goto (-34), 3, 14, [], [], []),
  (51, .aload_n 0, 1, 0, [], [], []),
  (52, .iload_n 1, 1, 1, [], [], []),
  (53, .putfield 374, 3, 0, [], [10, 38], []),
  (56, .iconst 1, 1, 0, [], [], []),
  (57, .ireturn, 1, 0, [], [], [])], [(14, [true, true])])
def mX12_readAnd : sM := (2, 4, [
  (0, .aload_n 0, 1, 0, [], [], []),
  (1, .invokevirtual 380, 3, 268, [4, 0], [10], []),
  (4, .ifCond .ne 5, 3, 9, [], [], []),
  (7, .iconst 0, 1, 0, [], [], []),
  (8, .ireturn, 1, 0, [], [], []),
  (9, .aload_n 0, 1, 0, [], [], []),
  (10, .getfield 374, 3, 0, [], [10, 38], []),
  (13, .istore_n 1, 1, 1, [], [], []),
  (14, .aload_n 0, 1, 0, [], [], []),
  (15, .bipush 12, 2, 0, [], [], []),
  (17, .invokevirtual 168, 3, 162, [4, 1], [10], []),
  (20, .ifCond .eq 31, 3, 51, [], [], []),
  (23, .aload_n 0, 1, 0, [], [], []),
  (24, .invokevirtual 82, 3, 159, [0, 0], [10], []),
  (27, .aload_n 0, 1, 0, [], [], []),
  (28, .invokevirtual 380, 3, 268, [4, 0], [10], []),
  (31, .ifCond .ne 5, 3, 36, [], [], []),
  (34, .iconst 0, 1, 0, [], [], []),
  (35, .ireturn, 1, 0, [], [], []),
  (36, .aload_n 0, 1, 0, [], [], []),
  (37, .iconst 2, 1, 0, [], [], []),
  (38, .iload_n 1, 1, 1, [], [], []),
  (39, .aload_n 0, 1, 0, [], [], []),
  (40, .getfield 374, 3, 0, [], [10, 38], []),
  (43, .iconst 0, 1, 0, [], [], []),
  (44, .invokevirtual 377, 3, 265, [1, 4], [10], []),
  (47, .istore_n 1, 1, 1, [], [], []),
  (48, .goto (-34), 3, 14, [], [], []),
  (51, .aload_n 0, 1, 0, [], [], []),
  (52, .iload_n 1, 1, 1, [], [], []),
  (53, .putfield 374, 3, 0, [], [10, 38], []),
  (56, .iconst 1, 1, 0, [], [], []),
  (57, .ireturn, 1, 0, [], [], [])], [(14, [true, true])])
def mX12_readSaid : sM := (4, 4, [
  (0, .aload_n 0, 1, 0, [], [], []),
  (1, .bipush 40, 2, 0, [], [], []),
  (3, .invokevirtual 86, 3, 163, [4, 1], [10], []),
  (6, .istore_n 1, 1, 1, [], [], []),
  (7, .bipush 13, 2, 0, [], [], []),
  (9, .istore_n 2, 1, 2, [], [], []),
  (10, .iload_n 2, 1, 2, [], [], []),
  (11, .bipush 22, 2, 0, [], [], []),
  (13, .if_icmp .gt 17, 3, 30, [], [], []),
  (16, .aload_n 0, 1, 0, [], [], []),
  (17, .iload_n 2, 1, 2, [], [], []),
  (18, .invokevirtual 168, 3, 162, [4, 1], [10], []),
  (21, .ifCond .ne 9, 3, 30, [], [], []),
  (24, .iinc 2 1, 3, 2, [], [], []),
  (27, .goto (-17), 3, 10, [], [], []),
  (30, .iload_n 1, 1, 1, [], [], []),
  (31, .ifCond .ne 15, 3, 46, [], [], []),
  (34, .iload_n 2, 1, 2, [], [], []),
  (35, .bipush 22, 2, 0, [], [], []),
  (37, .if_icmp .le 9, 3, 46, [], [], []),
  (40, .aload_n 0, 1, 0, [], [], []),
  (41, .iconst 1, 1, 0, [], [], []),
  (42, .invokevirtual 72, 3, 165, [4, 1], [10], []),
  (45, .ireturn, 1, 0, [], [], []),
  (46, .aload_n 0, 1, 0, [], [], []),
  (47, .getfield 383, 3, 0, [], [10, 36], []),
  (50, .bipush 20, 2, 0, [], [], []),
  (52, .if_icmp .eq 12, 3, 64, [], [], []),
  (55, .aload_n 0, 1, 0, [], [], []),
  (56, .getfield 386, 3, 0, [], [10, 37], []),
  (59, .bipush 8, 2, 0, [], [], []),
  (61, .if_icmp .ne 9, 3, 70, [], [], []),
  (64, .aload_n 0, 1, 0, [], [], []),
  (65, .iconst 4, 1, 0, [], [], []),
  (66, .invokevirtual 72, 3, 165, [4, 1], [10], []),
  (69, .ireturn, 1, 0, [], [], []),
  (70, .aload_n 0, 1, 0, [], [], []),
  (71, .dup, 1, 0, [], [], []),
  (72, .getfield 383, 3, 0, [], [10, 36], []),
  (75, .iconst 1, 1, 0, [], [], []),
  (76, .iadd, 1, 0, [], [], []),
  (77, .putfield 383, 3, 0, [], [10, 36], []),
  (80, .aload_n 0, 1, 0, [], [], []),
  (81, .dup, 1, 0, [], [], []),
  (82, .getfield 386, 3, 0, [], [10, 37], []),
  (85, .iconst 1, 1, 0, [], [], []),
  (86, .iadd, 1, 0, [], [], []),
  (87, .putfield 386, 3, 0, [], [10, 37], []),
  (90, .aload_n 0, 1, 0, [], [], []),
  (91, .invokevirtual 82, 3, 159, [0, 0], [10], []),
  (94, .iconst 1, 1, 0, [], [], []),
  (95, .istore_n 3, 1, 3, [], [], []),
  (96, .iload_n 1, 1, 1, [], [], []),
  (97, .ifCond .eq 11, 3, 108, [], [], []),
  (100, .aload_n 0, 1, 0, [], [], []),
  (101, .invokevirtual 389, 3, 270, [4, 0], [10], []),
  (104, .istore_n 3, 1, 3, [], [], []),
  (105, .goto 61, 3, 166, [], [], []),
  (108, .iload_n 2, 1, 2, [], [], []),
  (109, .bipush 13, 2, 0, [], [], []),
  (111, .if_icmp .ne 11, 3, 122, [], [], []),
  (114, .aload_n 0, 1, 0, [], [], []),
  (115, .invokevirtual 392, 3, 269, [4, 0], [10], []),
  (118, .istore_n 3, 1, 3, [], [], []),
  (119, .goto 47, 3, 166, [], [], []),
  (122, .iload_n 2, 1, 2, [], [], []),
  (123, .bipush 16, 2, 0, [], [], []),
  (125, .if_icmp .ge 21, 3, 146, [], [], []),
  (128, .aload_n 0, 1, 0, [], [], []),
  (129, .aload_n 0, 1, 0, [], [], []),
  (130, .bipush 50, 2, 0, [], [], []),
  (132, .iload_n 2, 1, 2, [], [], []),
  (133, .iadd, 1, 0, [], [], []),
  (134, .iconst 0, 1, 0, [], [], []),
  (135, .iconst 0, 1, 0, [], [], []),
  (136, .iconst 0, 1, 0, [], [], []),
  (137, .invokevirtual 377, 3, 265, [1, 4], [10], []),
  (140, .putfield 374, 3, 0, [], [10, 38], []),
  (143, .goto 23, 3, 166, [], [], []),
  (146, .iload_n 2, 1, 2, [], [], []),
  (147, .bipush 18, 2, 0, [], [], []),
  (149, .if_icmp .ge 11, 3, 160, [], [], []),
  (152, .aload_n 0, 1, 0, [], [], []),
  (153, .iload_n 2, 1, 2, [], [], []),
  (154, .invokevirtual 395, 3, 271, [4, 1], [10], []),
  (157, .goto 8, 3, 165, [], [], []),
  (160, .aload_n 0, 1, 0, [], [], []),
  (161, .iload_n 2, 1, 2, [], [], []),
  (162, .invokevirtual 398, 3, 272, [4, 1], [10], []),
  (165, .istore_n 3, 1, 3, [], [], []),
  (166, .aload_n 0, 1, 0, [], [], []),
  (167, .dup, 1, 0, [], [], []),
  (168, .getfield 386, 3, 0, [], [10, 37], []),
  (171, .iconst 1, 1, 0, [], [], []),
  (172, .isub, 1, 0, [], [], []),
  (173, .putfield 386, 3, 0, [], [10, 37], []),
  (176, .iload_n 3, 1, 3, [], [], []),
  (177, .ireturn, 1, 0, [], [], [])], [(10, [true, true, true, false]), (46, [true, true, true, false])])
def mX12_readNot : sM := (1, 4, [
  (0, .aload_n 0, 1, 0, [], [], []),
  (1, .invokevirtual 380, 3, 268, [4, 0], [10], []),
  (4, .ifCond .ne 5, 3, 9, [], [], []),
  (7, .iconst 0, 1, 0, [], [], []),
  (8, .ireturn, 1, 0, [], [], []),
  (9, .aload_n 0, 1, 0, [], [], []),
  (10, .aload_n 0, 1, 0, [], [], []),
  (11, .iconst 1, 1, 0, [], [], []),
  (12, .aload_n 0, 1, 0, [], [], []),
  (13, .getfield 374, 3, 0, [], [10, 38], []),
  (16, .iconst 0, 1, 0, [], [], []),
  (17, .iconst 0, 1, 0, [], [], []),
  (18, .invokevirtual 377, 3, 265, [1, 4], [10], []),
  (21, .putfield 374, 3, 0, [], [10, 38], []),
  (24, .iconst 1, 1, 0, [], [], []),
  (25, .ireturn, 1, 0, [], [], [])], [])
def mX12_readBracket : sM := (1, 4, [
  (0, .aload_n 0, 1, 0, [], [], []),
  (1, .invokevirtual 401, 3, 266, [4, 0], [10], []),
  (4, .ifCond .ne 5, 3, 9, [], [], []),
  (7, .iconst 0, 1, 0, [], [], []),
  (8, .ireturn, 1, 0, [], [], []),
  (9, .aload_n 0, 1, 0, [], [], []),
  (10, .bipush 41, 2, 0, [], [], []),
  (12, .invokevirtual 86, 3, 163, [4, 1], [10], []),
  (15, .ifCond .ne 9, 3, 24, [], [], []),
  (18, .aload_n 0, 1, 0, [], [], []),
  (19, .iconst 1, 1, 0, [], [], []),
  (20, .invokevirtual 72, 3, 165, [4, 1], [10], []),
  (23, .ireturn, 1, 0, [], [], []),
  (24, .aload_n 0, 1, 0, [], [], []),
  (25, .invokevirtual 82, 3, 159, [0, 0], [10], []),
  (28, .iconst 1, 1, 0, [], [], []),
  (29, .ireturn, 1, 0, [], [], [])], [])
def mX12_readOf : sM := (2, 4, [
  (0, .aload_n 0, 1, 0, [], [], []),
  (1, .invokevirtual 346, 3, 255, [4, 0], [10], []),
  (4, .ifCond .ne 5, 3, 9, [], [], []),
  (7, .iconst 0, 1, 0, [], [], []),
  (8, .ireturn, 1, 0, [], [], []),
  (9, .aload_n 0, 1, 0, [], [], []),
  (10, .aload_n 0, 1, 0, [], [], []),
  (11, .bipush 50, 2, 0, [], [], []),
  (13, .iload_n 1, 1, 1, [], [], []),
  (14, .iadd, 1, 0, [], [], []),
  (15, .aload_n 0, 1, 0, [], [], []),
  (16, .getfield 79, 3, 0, [], [10, 13], []),
  (19, .iconst 0, 1, 0, [], [], []),
  (20, .iconst 0, 1, 0, [], [], []),
  (21, .invokevirtual 377, 3, 265, [1, 4], [10], []),
  (24, .putfield 374, 3, 0, [], [10, 38], []),
  (27, .iconst 1, 1, 0, [], [], []),
  (28, .ireturn, 1, 0, [], [], [])], [])
def mX12_readCompare : sM := (3, 4, [
  (0, .aload_n 0, 1, 0, [], [], []),
  (1, .bipush 60, 2, 0, [], [], []),
  (3, .invokevirtual 86, 3, 163, [4, 1], [10], []),
  (6, .ifCond .ne 27, 3, 33, [], [], []),
  (9, .aload_n 0, 1, 0, [], [], []),
  (10, .bipush 61, 2, 0, [], [], []),
  (12, .invokevirtual 86, 3, 163, [4, 1], [10], []),
  (15, .ifCond .ne 18, 3, 33, [], [], []),
  (18, .aload_n 0, 1, 0, [], [], []),
  (19, .bipush 62, 2, 0, [], [], []),
  (21, .invokevirtual 86, 3, 163, [4, 1], [10], []),
  (24, .ifCond .ne 9, 3, 33, [], [], []),
  (27, .aload_n 0, 1, 0, [], [], []),
  (28, .iconst 1, 1, 0, [], [], []),
  (29, .invokevirtual 72, 3, 165, [4, 1], [10], []),
  (32, .ireturn, 1, 0, [], [], []),
  (33, .aload_n 0, 1, 0, [], [], []),
  (34, .getfield 40, 3, 0, [], [10, 9], []),
  (37, .istore_n 2, 1, 2, [], [], []),
  (38, .aload_n 0, 1, 0, [], [], []),
  (39, .invokevirtual 82, 3, 159, [0, 0], [10], []),
  (42, .aload_n 0, 1, 0, [], [], []),
  (43, .iconst 0, 1, 0, [], [], []),
  (44, .sipush 999, 3, 0, [], [], []),
  (47, .invokevirtual 146, 3, 166, [4, 2], [10], []),
  (50, .ifCond .ne 5, 3, 55, [], [], []),
  (53, .iconst 0, 1, 0, [], [], []),
  (54, .ireturn, 1, 0, [], [], []),
  (55, .aload_n 0, 1, 0, [], [], []),
  (56, .aload_n 0, 1, 0, [], [], []),
  (57, .bipush 50, 2, 0, [], [], []),
  (59, .iload_n 1, 1, 1, [], [], []),
  (60, .iadd, 1, 0, [], [], []),
  (61, .iconst 0, 1, 0, [], [], []),
  (62, .aload_n 0, 1, 0, [], [], []),
  (63, .getfield 79, 3, 0, [], [10, 13], []),
  (66, .iload_n 2, 1, 2, [], [], []),
  (67, .invokevirtual 377, 3, 265, [1, 4], [10], []),
  (70, .putfield 374, 3, 0, [], [10, 38], []),
  (73, .iconst 1, 1, 0, [], [], []),
  (74, .ireturn, 1, 0, [], [], [])], [(33, [true, true, false])])
def mX12_sentence : sM := (2, 1, [
  (0, .aload_n 0, 1, 0, [], [], []),
  (1, .sipush 200, 3, 0, [], [], []),
  (4, .invokevirtual 180, 3, 168, [0, 1], [10], []),
  (7, .aload_n 0, 1, 0, [], [], []),
  (8, .iconst 0, 1, 0, [], [], []),
  (9, .putfield 368, 3, 0, [], [10, 35], []),
  (12, .aload_n 0, 1, 0, [], [], []),
  (13, .iconst 0, 1, 0, [], [], []),
  (14, .putfield 383, 3, 0, [], [10, 36], []),
  (17, .aload_n 0, 1, 0, [], [], []),
  (18, .iconst 0, 1, 0, [], [], []),
  (19, .putfield 386, 3, 0, [], [10, 37], []),
  (22, .aload_n 0, 1, 0, [], [], []),
  (23, .invokevirtual 401, 3, 266, [4, 0], [10], []),
  (26, .ifCond .ne 10, 3, 36, [], [], []),
  (29, .iconst (-1), 1, 0, [], [], []),
  (30, .aload_n 0, 1, 0, [], [], []),
  (31, .getfield 69, 3, 0, [], [10, 11], []),
  (34, .isub, 1, 0, [], [], []),
  (35, .ireturn, 1, 0, [], [], []),
  (36, .aload_n 0, 1, 0, [], [], []),
  (37, .getfield 30, 3, 0, [], [10, 7], []),
  (40, .ifCond .eq 16, 3, 56, [], [], []),
  (43, .aload_n 0, 1, 0, [], [], []),
  (44, .iconst 1, 1, 0, [], [], []),
  (45, .invokevirtual 72, 3, 165, [4, 1], [10], []),
  (48, .pop, 1, 0, [], [], []),
  (49, .iconst (-1), 1, 0, [], [], []),
  (50, .aload_n 0, 1, 0, [], [], []),
  (51, .getfield 69, 3, 0, [], [10, 11], []),
  (54, .isub, 1, 0, [], [], []),
  (55, .ireturn, 1, 0, [], [], []),
  (56, .aload_n 0, 1, 0, [], [], []),
  (57, .getfield 98, 3, 2, [], [10, 14], []),
  (60, .sipush 5820, 3, 0, [], [], []),
  (63, .iconst 1, 1, 0, [], [], []),
  (64, .iastore, 1, 0, [], [], []),
  (65, .aload_n 0, 1, 0, [], [], []),
  (66, .getfield 98, 3, 2, [], [10, 14], []),
  (69, .sipush 5821, 3, 0, [], [], []),
  (72, .aload_n 0, 1, 0, [], [], []),
  (73, .getfield 374, 3, 0, [], [10, 38], []),
  (76, .iastore, 1, 0, [], [], []),
  (77, .iconst 0, 1, 0, [], [], []),
  (78, .istore_n 1, 1, 1, [], [], []),
  (79, .iload_n 1, 1, 1, [], [], []),
  (80, .sipush 240, 3, 0, [], [], []),
  (83, .if_icmp .ge 25, 3, 108, [], [], []),
  (86, .aload_n 0, 1, 0, [], [], []),
  (87, .getfield 98, 3, 2, [], [10, 14], []),
  (90, .sipush 5822, 3, 0, [], [], []),
  (93, .iload_n 1, 1, 1, [], [], []),
  (94, .iadd, 1, 0, [], [], []),
  (95, .aload_n 0, 1, 0, [], [], []),
  (96, .getfield 139, 3, 2, [], [10, 34], []),
  (99, .iload_n 1, 1, 1, [], [], []),
  (100, .iaload, 1, 0, [], [], []),
  (101, .iastore, 1, 0, [], [], []),
  (102, .iinc 1 1, 3, 1, [], [], []),
  (105, .goto (-26), 3, 79, [], [], []),
  (108, .aload_n 0, 1, 0, [], [], []),
  (109, .getfield 383, 3, 0, [], [10, 36], []),
  (112, .ireturn, 1, 0, [], [], [])], [(79, [true, true])])
def mX12_holds : sM := (8, 4, [
  (0, .sipush 5822, 3, 0, [], [], []),
  (3, .iconst 4, 1, 0, [], [], []),
  (4, .iload_n 1, 1, 1, [], [], []),
  (5, .imul, 1, 0, [], [], []),
  (6, .iadd, 1, 0, [], [], []),
  (7, .istore_n 3, 1, 3, [], [], []),
  (8, .aload_n 0, 1, 0, [], [], []),
  (9, .getfield 98, 3, 2, [], [10, 14], []),
  (12, .iload_n 3, 1, 3, [], [], []),
  (13, .iconst 1, 1, 0, [], [], []),
  (14, .iadd, 1, 0, [], [], []),
  (15, .iaload, 1, 0, [], [], []),
  (16, .istore 4, 2, 4, [], [], []),
  (18, .aload_n 0, 1, 0, [], [], []),
  (19, .getfield 98, 3, 2, [], [10, 14], []),
  (22, .iload_n 3, 1, 3, [], [], []),
  (23, .iconst 2, 1, 0, [], [], []),
  (24, .iadd, 1, 0, [], [], []),
  (25, .iaload, 1, 0, [], [], []),
  (26, .istore 5, 2, 5, [], [], []),
  (28, .aload_n 0, 1, 0, [], [], []),
  (29, .getfield 98, 3, 2, [], [10, 14], []),
  (32, .iload_n 3, 1, 3, [], [], []),
  (33, .iaload, 1, 0, [], [], []),
  (34, .lookupswitch 180 #[(1, 66), (2, 82), (3, 108), (64, 134), (65, 148), (66, 164), (67, 172)], 66, 214, [], [], [(1, 100), (2, 116), (3, 142), (64, 168), (65, 182), (66, 198), (67, 206)]),
  (100, .aload_n 0, 1, 0, [], [], []),
  (101, .iload 4, 2, 4, [], [], []),
  (103, .iload_n 2, 1, 2, [], [], []),
  (104, .invokevirtual 404, 3, 274, [4, 2], [10], []),
  (107, .ifCond .ne 7, 3, 114, [], [], []),
  (110, .iconst 1, 1, 0, [], [], []),
  (111, .goto 4, 3, 115, [], [], []),
  (114, .iconst 0, 1, 0, [], [], []),
  (115, .ireturn, 1, 0, [], [], []),
  (116, .aload_n 0, 1, 0, [], [], []),
  (117, .iload 4, 2, 4, [], [], []),
  (119, .iload_n 2, 1, 2, [], [], []),
  (120, .invokevirtual 404, 3, 274, [4, 2], [10], []),
  (123, .ifCond .eq 17, 3, 140, [], [], []),
  (126, .aload_n 0, 1, 0, [], [], []),
  (127, .iload 5, 2, 5, [], [], []),
  (129, .iload_n 2, 1, 2, [], [], []),
  (130, .invokevirtual 404, 3, 274, [4, 2], [10], []),
  (133, .ifCond .eq 7, 3, 140, [], [], []),
  (136, .iconst 1, 1, 0, [], [], []),
  (137, .goto 4, 3, 141, [], [], []),
  (140, .iconst 0, 1, 0, [], [], []),
  (141, .ireturn, 1, 0, [], [], []),
  (142, .aload_n 0, 1, 0, [], [], []),
  (143, .iload 4, 2, 4, [], [], []),
  (145, .iload_n 2, 1, 2, [], [], []),
  (146, .invokevirtual 404, 3, 274, [4, 2], [10], []),
  (149, .ifCond .ne 13, 3, 162, [], [], []),
  (152, .aload_n 0, 1, 0, [], [], []),
  (153, .iload 5, 2, 5, [], [], []),
  (155, .iload_n 2, 1, 2, [], [], []),
  (156, .invokevirtual 404, 3, 274, [4, 2], [10], []),
  (159, .ifCond .eq 7, 3, 166, [], [], []),
  (162, .iconst 1, 1, 0, [], [], []),
  (163, .goto 4, 3, 167, [], [], []),
  (166, .iconst 0, 1, 0, [], [], []),
  (167, .ireturn, 1, 0, [], [], []),
  (168, .aload_n 0, 1, 0, [], [], []),
  (169, .iload_n 2, 1, 2, [], [], []),
  (170, .invokevirtual 199, 3, 180, [1, 1], [10], []),
  (173, .ifCond .ne 7, 3, 180, [], [], []),
  (176, .iconst 1, 1, 0, [], [], []),
  (177, .goto 4, 3, 181, [], [], []),
  (180, .iconst 0, 1, 0, [], [], []),
  (181, .ireturn, 1, 0, [], [], []),
  (182, .aload_n 0, 1, 0, [], [], []),
  (183, .iload_n 2, 1, 2, [], [], []),
  (184, .invokevirtual 407, 3, 264, [1, 1], [10], []),
  (187, .iconst 2, 1, 0, [], [], []),
  (188, .irem, 1, 0, [], [], []),
  (189, .ifCond .ne 7, 3, 196, [], [], []),
  (192, .iconst 1, 1, 0, [], [], []),
  (193, .goto 4, 3, 197, [], [], []),
  (196, .iconst 0, 1, 0, [], [], []),
  (197, .ireturn, 1, 0, [], [], []),
  (198, .aload_n 0, 1, 0, [], [], []),
  (199, .iload_n 2, 1, 2, [], [], []),
  (200, .iload 4, 2, 4, [], [], []),
  (202, .invokevirtual 270, 3, 216, [4, 2], [10], []),
  (205, .ireturn, 1, 0, [], [], []),
  (206, .aload_n 0, 1, 0, [], [], []),
  (207, .iload_n 2, 1, 2, [], [], []),
  (208, .iload 4, 2, 4, [], [], []),
  (210, .invokevirtual 410, 3, 263, [4, 2], [10], []),
  (213, .ireturn, 1, 0, [], [], []),
  (214, .aload_n 0, 1, 0, [], [], []),
  (215, .getfield 98, 3, 2, [], [10, 14], []),
  (218, .iload_n 3, 1, 3, [], [], []),
  (219, .iaload, 1, 0, [], [], []),
  (220, .bipush 50, 2, 0, [], [], []),
  (222, .isub, 1, 0, [], [], []),
  (223, .istore 6, 2, 6, [], [], []),
  (225, .iload 6, 2, 6, [], [], []),
  (227, .bipush 18, 2, 0, [], [], []),
  (229, .if_icmp .ne 11, 3, 240, [], [], []),
  (232, .aload_n 0, 1, 0, [], [], []),
  (233, .iload_n 2, 1, 2, [], [], []),
  (234, .invokevirtual 199, 3, 180, [1, 1], [10], []),
  (237, .goto 54, 3, 291, [], [], []),
  (240, .iload 6, 2, 6, [], [], []),
  (242, .bipush 19, 2, 0, [], [], []),
  (244, .if_icmp .ne 11, 3, 255, [], [], []),
  (247, .aload_n 0, 1, 0, [], [], []),
  (248, .iload_n 2, 1, 2, [], [], []),
  (249, .invokevirtual 407, 3, 264, [1, 1], [10], []),
  (252, .goto 39, 3, 291, [], [], []),
  (255, .iload 6, 2, 6, [], [], []),
  (257, .bipush 20, 2, 0, [], [], []),
  (259, .if_icmp .ne 11, 3, 270, [], [], []),
  (262, .aload_n 0, 1, 0, [], [], []),
  (263, .iload_n 2, 1, 2, [], [], []),
  (264, .invokevirtual 228, 3, 197, [1, 1], [10], []),
  (267, .goto 24, 3, 291, [], [], []),
  (270, .iload 6, 2, 6, [], [], []),
  (272, .bipush 21, 2, 0, [], [], []),
  (274, .if_icmp .ne 16, 3, 290, [], [], []),
  (277, .aload_n 0, 1, 0, [], [], []),
  (278, .getfield 98, 3, 2, [], [10, 14], []),
  (281, .sipush 2611, 3, 0, [], [], []),
  (284, .iload_n 2, 1, 2, [], [], []),
  (285, .iadd, 1, 0, [], [], []),
  (286, .iaload, 1, 0, [], [], []),
  (287, .goto 4, 3, 291, [], [], []),
  (290, .iload_n 2, 1, 2, [], [], []),
  (291, .istore 7, 2, 7, [], [], []),
  (293, .aload_n 0, 1, 0, [], [], []),
  (294, .getfield 98, 3, 2, [], [10, 14], []),
  (297, .iload_n 3, 1, 3, [], [], []),
  (298, .iconst 3, 1, 0, [], [], []),
  (299, .iadd, 1, 0, [], [], []),
  (300, .iaload, 1, 0, [], [], []),
  (301, .bipush 60, 2, 0, [], [], []),
  (303, .if_icmp .ne 18, 3, 321, [], [], []),
  (306, .iload 7, 2, 7, [], [], []),
  (308, .iload 5, 2, 5, [], [], []),
  (310, .if_icmp .ge 7, 3, 317, [], [], []),
  (313, .iconst 1, 1, 0, [], [], []),
  (314, .goto 47, 3, 361, [], [], []),
  (317, .iconst 0, 1, 0, [], [], []),
  (318, .goto 43, 3, 361, [], [], []),
  (321, .aload_n 0, 1, 0, [], [], []),
  (322, .getfield 98, 3, 2, [], [10, 14], []),
  (325, .iload_n 3, 1, 3, [], [], []),
  (326, .iconst 3, 1, 0, [], [], []),
  (327, .iadd, 1, 0, [], [], []),
  (328, .iaload, 1, 0, [], [], []),
  (329, .bipush 61, 2, 0, [], [], []),
  (331, .if_icmp .ne 18, 3, 349, [], [], []),
  (334, .iload 7, 2, 7, [], [], []),
  (336, .iload 5, 2, 5, [], [], []),
  (338, .if_icmp .ne 7, 3, 345, [], [], []),
  (341, .iconst 1, 1, 0, [], [], []),
  (342, .goto 19, 3, 361, [], [], []),
  (345, .iconst 0, 1, 0, [], [], []),
  (346, .goto 15, 3, 361, [], [], []),
  (349, .iload 7, 2, 7, [], [], []),
  (351, .iload 5, 2, 5, [], [], []),
  (353, .if_icmp .le 7, 3, 360, [], [], []),
  (356, .iconst 1, 1, 0, [], [], []),
  (357, .goto 4, 3, 361, [], [], []),
  (360, .iconst 0, 1, 0, [], [], []),
  (361, .ireturn, 1, 0, [], [], [])], [])
def mX12_said : sM := (4, 1, [
  (0, .aload_n 0, 1, 0, [], [], []),
  (1, .iconst 0, 1, 0, [], [], []),
  (2, .putfield 1, 3, 0, [], [10, 0], []),
  (5, .aload_n 0, 1, 0, [], [], []),
  (6, .getfield 98, 3, 2, [], [10, 14], []),
  (9, .sipush 5820, 3, 0, [], [], []),
  (12, .iaload, 1, 0, [], [], []),
  (13, .ifCond .ne 5, 3, 18, [], [], []),
  (16, .iconst (-1), 1, 0, [], [], []),
  (17, .ireturn, 1, 0, [], [], []),
  (18, .iconst 0, 1, 0, [], [], []),
  (19, .istore_n 2, 1, 2, [], [], []),
  (20, .iconst 0, 1, 0, [], [], []),
  (21, .istore_n 3, 1, 3, [], [], []),
  (22, .iload_n 3, 1, 3, [], [], []),
  (23, .aload_n 0, 1, 0, [], [], []),
  (24, .getfield 98, 3, 2, [], [10, 14], []),
  (27, .iconst 0, 1, 0, [], [], []),
  (28, .iaload, 1, 0, [], [], []),
  (29, .if_icmp .ge 38, 3, 67, [], [], []),
  (32, .aload_n 0, 1, 0, [], [], []),
  (33, .aload_n 0, 1, 0, [], [], []),
  (34, .getfield 98, 3, 2, [], [10, 14], []),
  (37, .sipush 5821, 3, 0, [], [], []),
  (40, .iaload, 1, 0, [], [], []),
  (41, .iload_n 3, 1, 3, [], [], []),
  (42, .invokevirtual 404, 3, 274, [4, 2], [10], []),
  (45, .ifCond .ne 6, 3, 51, [], [], []),
  (48, .goto 13, 3, 61, [], [], []),
  (51, .iload_n 2, 1, 2, [], [], []),
  (52, .iload_n 1, 1, 1, [], [], []),
  (53, .if_icmp .ne 5, 3, 58, [], [], []),
  (56, .iload_n 3, 1, 3, [], [], []),
  (57, .ireturn, 1, 0, [], [], []),
  (58, .iinc 2 1, 3, 2, [], [], []),
  (61, .iinc 3 1, 3, 3, [], [], []),
  (64, .goto (-42), 3, 22, [], [], []),
  (67, .iload_n 1, 1, 1, [], [], []),
  (68, .iconst (-1), 1, 0, [], [], []),
  (69, .if_icmp .ne 7, 3, 76, [], [], []),
  (72, .iload_n 2, 1, 2, [], [], []),
  (73, .goto 4, 3, 77, [], [], []),
  (76, .iconst (-1), 1, 0, [], [], []),
  (77, .ireturn, 1, 0, [], [], [])], [(22, [true, true, true, true])])
def mX12_image : sM := (3, 4, [
  (0, .aload_n 0, 1, 0, [], [], []),
  (1, .iconst 0, 1, 0, [], [], []),
  (2, .putfield 1, 3, 0, [], [10, 0], []),
  (5, .iload_n 1, 1, 1, [], [], []),
  (6, .iconst 0, 1, 0, [], [], []),
  (7, .iconst 1, 1, 0, [], [], []),
  (8, .invokestatic 75, 3, 155, [4, 3], [], []),
  (11, .ifCond .ne 5, 3, 16, [], [], []),
  (14, .iconst 0, 1, 0, [], [], []),
  (15, .ireturn, 1, 0, [], [], []),
  (16, .iconst 0, 1, 0, [], [], []),
  (17, .istore_n 2, 1, 2, [], [], []),
  (18, .iload_n 2, 1, 2, [], [], []),
  (19, .sipush 6062, 3, 0, [], [], []),
  (22, .if_icmp .ge 27, 3, 49, [], [], []),
  (25, .aload_n 0, 1, 0, [], [], []),
  (26, .getfield 104, 3, 2, [], [10, 16], []),
  (29, .sipush 6062, 3, 0, [], [], []),
  (32, .iload_n 1, 1, 1, [], [], []),
  (33, .imul, 1, 0, [], [], []),
  (34, .iload_n 2, 1, 2, [], [], []),
  (35, .iadd, 1, 0, [], [], []),
  (36, .aload_n 0, 1, 0, [], [], []),
  (37, .getfield 98, 3, 2, [], [10, 14], []),
  (40, .iload_n 2, 1, 2, [], [], []),
  (41, .iaload, 1, 0, [], [], []),
  (42, .iastore, 1, 0, [], [], []),
  (43, .iinc 2 1, 3, 2, [], [], []),
  (46, .goto (-28), 3, 18, [], [], []),
  (49, .iconst 0, 1, 0, [], [], []),
  (50, .istore_n 2, 1, 2, [], [], []),
  (51, .iload_n 2, 1, 2, [], [], []),
  (52, .iconst 4, 1, 0, [], [], []),
  (53, .if_icmp .ge 25, 3, 78, [], [], []),
  (56, .aload_n 0, 1, 0, [], [], []),
  (57, .getfield 123, 3, 2, [], [10, 22], []),
  (60, .iconst 4, 1, 0, [], [], []),
  (61, .iload_n 1, 1, 1, [], [], []),
  (62, .imul, 1, 0, [], [], []),
  (63, .iload_n 2, 1, 2, [], [], []),
  (64, .iadd, 1, 0, [], [], []),
  (65, .aload_n 0, 1, 0, [], [], []),
  (66, .getfield 116, 3, 2, [], [10, 20], []),
  (69, .iload_n 2, 1, 2, [], [], []),
  (70, .laload, 1, 0, [], [], []),
  (71, .lastore, 1, 0, [], [], []),
  (72, .iinc 2 1, 3, 2, [], [], []),
  (75, .goto (-24), 3, 51, [], [], []),
  (78, .aload_n 0, 1, 0, [], [], []),
  (79, .getfield 126, 3, 2, [], [10, 23], []),
  (82, .iload_n 1, 1, 1, [], [], []),
  (83, .iconst 1, 1, 0, [], [], []),
  (84, .bastore, 1, 0, [], [], []),
  (85, .iconst 1, 1, 0, [], [], []),
  (86, .ireturn, 1, 0, [], [], [])], [(18, [true, true, true]), (51, [true, true, true])])
def mX12_restore : sM := (3, 4, [
  (0, .aload_n 0, 1, 0, [], [], []),
  (1, .iconst 0, 1, 0, [], [], []),
  (2, .putfield 1, 3, 0, [], [10, 0], []),
  (5, .iload_n 1, 1, 1, [], [], []),
  (6, .iconst 0, 1, 0, [], [], []),
  (7, .iconst 1, 1, 0, [], [], []),
  (8, .invokestatic 75, 3, 155, [4, 3], [], []),
  (11, .ifCond .eq 12, 3, 23, [], [], []),
  (14, .aload_n 0, 1, 0, [], [], []),
  (15, .getfield 126, 3, 2, [], [10, 23], []),
  (18, .iload_n 1, 1, 1, [], [], []),
  (19, .baload, 1, 0, [], [], []),
  (20, .ifCond .ne 5, 3, 25, [], [], []),
  (23, .iconst 0, 1, 0, [], [], []),
  (24, .ireturn, 1, 0, [], [], []),
  (25, .iconst 0, 1, 0, [], [], []),
  (26, .istore_n 2, 1, 2, [], [], []),
  (27, .iload_n 2, 1, 2, [], [], []),
  (28, .sipush 6062, 3, 0, [], [], []),
  (31, .if_icmp .ge 27, 3, 58, [], [], []),
  (34, .aload_n 0, 1, 0, [], [], []),
  (35, .getfield 98, 3, 2, [], [10, 14], []),
  (38, .iload_n 2, 1, 2, [], [], []),
  (39, .aload_n 0, 1, 0, [], [], []),
  (40, .getfield 104, 3, 2, [], [10, 16], []),
  (43, .sipush 6062, 3, 0, [], [], []),
  (46, .iload_n 1, 1, 1, [], [], []),
  (47, .imul, 1, 0, [], [], []),
  (48, .iload_n 2, 1, 2, [], [], []),
  (49, .iadd, 1, 0, [], [], []),
  (50, .iaload, 1, 0, [], [], []),
  (51, .iastore, 1, 0, [], [], []),
  (52, .iinc 2 1, 3, 2, [], [], []),
  (55, .goto (-28), 3, 27, [], [], []),
  (58, .iconst 0, 1, 0, [], [], []),
  (59, .istore_n 2, 1, 2, [], [], []),
  (60, .iload_n 2, 1, 2, [], [], []),
  (61, .iconst 4, 1, 0, [], [], []),
  (62, .if_icmp .ge 25, 3, 87, [], [], []),
  (65, .aload_n 0, 1, 0, [], [], []),
  (66, .getfield 116, 3, 2, [], [10, 20], []),
  (69, .iload_n 2, 1, 2, [], [], []),
  (70, .aload_n 0, 1, 0, [], [], []),
  (71, .getfield 123, 3, 2, [], [10, 22], []),
  (74, .iconst 4, 1, 0, [], [], []),
  (75, .iload_n 1, 1, 1, [], [], []),
  (76, .imul, 1, 0, [], [], []),
  (77, .iload_n 2, 1, 2, [], [], []),
  (78, .iadd, 1, 0, [], [], []),
  (79, .laload, 1, 0, [], [], []),
  (80, .lastore, 1, 0, [], [], []),
  (81, .iinc 2 1, 3, 2, [], [], []),
  (84, .goto (-24), 3, 60, [], [], []),
  (87, .aload_n 0, 1, 0, [], [], []),
  (88, .iconst 0, 1, 0, [], [], []),
  (89, .putfield 192, 3, 0, [], [10, 24], []),
  (92, .iconst 1, 1, 0, [], [], []),
  (93, .ireturn, 1, 0, [], [], [])], [(27, [true, true, true]), (60, [true, true, true])])
def mX12_total : sM := (2, 1, [
  (0, .aload_n 0, 1, 0, [], [], []),
  (1, .iconst 0, 1, 0, [], [], []),
  (2, .putfield 1, 3, 0, [], [10, 0], []),
  (5, .iload_n 1, 1, 1, [], [], []),
  (6, .tableswitch 54 0 3 #[30, 37, 44, 49], 30, 60, [], [], [(0, 36), (1, 43), (2, 50), (3, 55)]),
  (36, .aload_n 0, 1, 0, [], [], []),
  (37, .getfield 98, 3, 2, [], [10, 14], []),
  (40, .iconst 0, 1, 0, [], [], []),
  (41, .iaload, 1, 0, [], [], []),
  (42, .ireturn, 1, 0, [], [], []),
  (43, .aload_n 0, 1, 0, [], [], []),
  (44, .getfield 98, 3, 2, [], [10, 14], []),
  (47, .iconst 1, 1, 0, [], [], []),
  (48, .iaload, 1, 0, [], [], []),
  (49, .ireturn, 1, 0, [], [], []),
  (50, .aload_n 0, 1, 0, [], [], []),
  (51, .invokevirtual 362, 3, 259, [1, 0], [10], []),
  (54, .ireturn, 1, 0, [], [], []),
  (55, .aload_n 0, 1, 0, [], [], []),
  (56, .getfield 11, 3, 0, [], [10, 2], []),
  (59, .ireturn, 1, 0, [], [], []),
  (60, .iconst (-1), 1, 0, [], [], []),
  (61, .ireturn, 1, 0, [], [], [])], [])
def mL_law : sM := (7, 4, [
  (0, .new 8, 3, 15, [], [9], []),
  (3, .dup, 1, 0, [], [], []),
  (4, .invokespecial 26, 3, 95, [0], [9], []),
  (7, .astore_n 1, 1, 1, [], [], []),
  (8, .new 27, 3, 39, [], [10], []),
  (11, .dup, 1, 0, [], [], []),
  (12, .invokespecial 29, 3, 169, [0], [10], []),
  (15, .astore_n 2, 1, 2, [], [], []),
  (16, .iconst 1, 1, 0, [], [], []),
  (17, .newarray .long, 2, 0, [], [22], []),
  (19, .astore_n 3, 1, 3, [], [], []),
  (20, .iconst 0, 1, 0, [], [], []),
  (21, .istore 4, 2, 4, [], [], []),
  (23, .iload 4, 2, 4, [], [], []),
  (25, .aload_n 0, 1, 0, [], [], []),
  (26, .arraylength, 1, 0, [], [], []),
  (27, .bipush 6, 2, 0, [], [], []),
  (29, .isub, 1, 0, [], [], []),
  (30, .if_icmp .gt 1922, 3, 1952, [], [], []),
  (33, .aload_n 0, 1, 0, [], [], []),
  (34, .iload 4, 2, 4, [], [], []),
  (36, .iaload, 1, 0, [], [], []),
  (37, .bipush 63, 2, 0, [], [], []),
  (39, .iand, 1, 0, [], [], []),
  (40, .tableswitch 1906 0 45 #[200, 273, 298, 311, 324, 349, 386, 435, 484, 533, 558, 595, 663, 688, 737, 774, 854, 910, 978, 1015, 1052, 1077, 1102, 1151, 1200, 1249, 1298, 1335, 1372, 1421, 1434, 1459, 1496, 1533, 1582, 1619, 1656, 1693, 1706, 1743, 1768, 1793, 1806, 1831, 1856, 1881], 200, 1946, [], [], [(0, 240), (1, 313), (2, 338), (3, 351), (4, 364), (5, 389), (6, 426), (7, 475), (8, 524), (9, 573), (10, 598), (11, 635), (12, 703), (13, 728), (14, 777), (15, 814), (16, 894), (17, 950), (18, 1018), (19, 1055), (20, 1092), (21, 1117), (22, 1142), (23, 1191), (24, 1240), (25, 1289), (26, 1338), (27, 1375), (28, 1412), (29, 1461), (30, 1474), (31, 1499), (32, 1536), (33, 1573), (34, 1622), (35, 1659), (36, 1696), (37, 1733), (38, 1746), (39, 1783), (40, 1808), (41, 1833), (42, 1846), (43, 1871), (44, 1896), (45, 1921)]),
  (240, .aload_n 1, 1, 1, [], [], []),
  (241, .aload_n 0, 1, 0, [], [], []),
  (242, .iload 4, 2, 4, [], [], []),
  (244, .iconst 1, 1, 0, [], [], []),
  (245, .iadd, 1, 0, [], [], []),
  (246, .iaload, 1, 0, [], [], []),
  (247, .aload_n 0, 1, 0, [], [], []),
  (248, .iload 4, 2, 4, [], [], []),
  (250, .iconst 2, 1, 0, [], [], []),
  (251, .iadd, 1, 0, [], [], []),
  (252, .iaload, 1, 0, [], [], []),
  (253, .aload_n 0, 1, 0, [], [], []),
  (254, .iload 4, 2, 4, [], [], []),
  (256, .iconst 3, 1, 0, [], [], []),
  (257, .iadd, 1, 0, [], [], []),
  (258, .iaload, 1, 0, [], [], []),
  (259, .aload_n 0, 1, 0, [], [], []),
  (260, .iload 4, 2, 4, [], [], []),
  (262, .iconst 4, 1, 0, [], [], []),
  (263, .iadd, 1, 0, [], [], []),
  (264, .iaload, 1, 0, [], [], []),
  (265, .aload_n 0, 1, 0, [], [], []),
  (266, .iload 4, 2, 4, [], [], []),
  (268, .iconst 5, 1, 0, [], [], []),
  (269, .iadd, 1, 0, [], [], []),
  (270, .iaload, 1, 0, [], [], []),
  (271, .invokevirtual 30, 3, 96, [1, 5], [9], []),
  (274, .aload_n 2, 1, 2, [], [], []),
  (275, .aload_n 0, 1, 0, [], [], []),
  (276, .iload 4, 2, 4, [], [], []),
  (278, .iconst 1, 1, 0, [], [], []),
  (279, .iadd, 1, 0, [], [], []),
  (280, .iaload, 1, 0, [], [], []),
  (281, .aload_n 0, 1, 0, [], [], []),
  (282, .iload 4, 2, 4, [], [], []),
  (284, .iconst 2, 1, 0, [], [], []),
  (285, .iadd, 1, 0, [], [], []),
  (286, .iaload, 1, 0, [], [], []),
  (287, .aload_n 0, 1, 0, [], [], []),
  (288, .iload 4, 2, 4, [], [], []),
  (290, .iconst 3, 1, 0, [], [], []),
  (291, .iadd, 1, 0, [], [], []),
  (292, .iaload, 1, 0, [], [], []),
  (293, .aload_n 0, 1, 0, [], [], []),
  (294, .iload 4, 2, 4, [], [], []),
  (296, .iconst 4, 1, 0, [], [], []),
  (297, .iadd, 1, 0, [], [], []),
  (298, .iaload, 1, 0, [], [], []),
  (299, .aload_n 0, 1, 0, [], [], []),
  (300, .iload 4, 2, 4, [], [], []),
  (302, .iconst 5, 1, 0, [], [], []),
  (303, .iadd, 1, 0, [], [], []),
  (304, .iaload, 1, 0, [], [], []),
  (305, .invokevirtual 34, 3, 152, [1, 5], [10], []),
  (308, .if_icmp .eq 1638, 3, 1946, [], [], []),
  (311, .iconst 0, 1, 0, [], [], []),
  (312, .ireturn, 1, 0, [], [], []),
  (313, .aload_n 1, 1, 1, [], [], []),
  (314, .aload_n 0, 1, 0, [], [], []),
  (315, .iload 4, 2, 4, [], [], []),
  (317, .iconst 1, 1, 0, [], [], []),
  (318, .iadd, 1, 0, [], [], []),
  (319, .iaload, 1, 0, [], [], []),
  (320, .invokevirtual 35, 3, 98, [4, 1], [9], []),
  (323, .aload_n 2, 1, 2, [], [], []),
  (324, .aload_n 0, 1, 0, [], [], []),
  (325, .iload 4, 2, 4, [], [], []),
  (327, .iconst 1, 1, 0, [], [], []),
  (328, .iadd, 1, 0, [], [], []),
  (329, .iaload, 1, 0, [], [], []),
  (330, .invokevirtual 39, 3, 153, [4, 1], [10], []),
  (333, .if_icmp .eq 1613, 3, 1946, [], [], []),
  (336, .iconst 0, 1, 0, [], [], []),
  (337, .ireturn, 1, 0, [], [], []),
  (338, .aload_n 1, 1, 1, [], [], []),
  (339, .invokevirtual 40, 3, 99, [1, 0], [9], []),
  (342, .aload_n 2, 1, 2, [], [], []),
  (343, .invokevirtual 44, 3, 178, [1, 0], [10], []),
  (346, .if_icmp .eq 1600, 3, 1946, [], [], []),
  (349, .iconst 0, 1, 0, [], [], []),
  (350, .ireturn, 1, 0, [], [], []),
  (351, .aload_n 1, 1, 1, [], [], []),
  (352, .invokevirtual 45, 3, 102, [1, 0], [9], []),
  (355, .aload_n 2, 1, 2, [], [], []),
  (356, .invokevirtual 48, 3, 179, [1, 0], [10], []),
  (359, .if_icmp .eq 1587, 3, 1946, [], [], []),
  (362, .iconst 0, 1, 0, [], [], []),
  (363, .ireturn, 1, 0, [], [], []),
  (364, .aload_n 1, 1, 1, [], [], []),
  (365, .aload_n 0, 1, 0, [], [], []),
  (366, .iload 4, 2, 4, [], [], []),
  (368, .iconst 1, 1, 0, [], [], []),
  (369, .iadd, 1, 0, [], [], []),
  (370, .iaload, 1, 0, [], [], []),
  (371, .invokevirtual 49, 3, 103, [1, 1], [9], []),
  (374, .aload_n 2, 1, 2, [], [], []),
  (375, .aload_n 0, 1, 0, [], [], []),
  (376, .iload 4, 2, 4, [], [], []),
  (378, .iconst 1, 1, 0, [], [], []),
  (379, .iadd, 1, 0, [], [], []),
  (380, .iaload, 1, 0, [], [], []),
  (381, .invokevirtual 52, 3, 192, [1, 1], [10], []),
  (384, .if_icmp .eq 1562, 3, 1946, [], [], []),
  (387, .iconst 0, 1, 0, [], [], []),
  (388, .ireturn, 1, 0, [], [], []),
  (389, .aload_n 1, 1, 1, [], [], []),
  (390, .aload_n 0, 1, 0, [], [], []),
  (391, .iload 4, 2, 4, [], [], []),
  (393, .iconst 1, 1, 0, [], [], []),
  (394, .iadd, 1, 0, [], [], []),
  (395, .iaload, 1, 0, [], [], []),
  (396, .aload_n 0, 1, 0, [], [], []),
  (397, .iload 4, 2, 4, [], [], []),
  (399, .iconst 2, 1, 0, [], [], []),
  (400, .iadd, 1, 0, [], [], []),
  (401, .iaload, 1, 0, [], [], []),
  (402, .invokevirtual 53, 3, 104, [1, 2], [9], []),
  (405, .aload_n 2, 1, 2, [], [], []),
  (406, .aload_n 0, 1, 0, [], [], []),
  (407, .iload 4, 2, 4, [], [], []),
  (409, .iconst 1, 1, 0, [], [], []),
  (410, .iadd, 1, 0, [], [], []),
  (411, .iaload, 1, 0, [], [], []),
  (412, .aload_n 0, 1, 0, [], [], []),
  (413, .iload 4, 2, 4, [], [], []),
  (415, .iconst 2, 1, 0, [], [], []),
  (416, .iadd, 1, 0, [], [], []),
  (417, .iaload, 1, 0, [], [], []),
  (418, .invokevirtual 56, 3, 193, [1, 2], [10], []),
  (421, .if_icmp .eq 1525, 3, 1946, [], [], []),
  (424, .iconst 0, 1, 0, [], [], []),
  (425, .ireturn, 1, 0, [], [], []),
  (426, .aload_n 1, 1, 1, [], [], []),
  (427, .aload_n 0, 1, 0, [], [], []),
  (428, .iload 4, 2, 4, [], [], []),
  (430, .iconst 1, 1, 0, [], [], []),
  (431, .iadd, 1, 0, [], [], []),
  (432, .iaload, 1, 0, [], [], []),
  (433, .aload_n 0, 1, 0, [], [], []),
  (434, .iload 4, 2, 4, [], [], []),
  (436, .iconst 2, 1, 0, [], [], []),
  (437, .iadd, 1, 0, [], [], []),
  (438, .iaload, 1, 0, [], [], []),
  (439, .aload_n 0, 1, 0, [], [], []),
  (440, .iload 4, 2, 4, [], [], []),
  (442, .iconst 3, 1, 0, [], [], []),
  (443, .iadd, 1, 0, [], [], []),
  (444, .iaload, 1, 0, [], [], []),
  (445, .invokevirtual 57, 3, 105, [1, 3], [9], []),
  (448, .aload_n 2, 1, 2, [], [], []),
  (449, .aload_n 0, 1, 0, [], [], []),
  (450, .iload 4, 2, 4, [], [], []),
  (452, .iconst 1, 1, 0, [], [], []),
  (453, .iadd, 1, 0, [], [], []),
  (454, .iaload, 1, 0, [], [], []),
  (455, .aload_n 0, 1, 0, [], [], []),
  (456, .iload 4, 2, 4, [], [], []),
  (458, .iconst 2, 1, 0, [], [], []),
  (459, .iadd, 1, 0, [], [], []),
  (460, .iaload, 1, 0, [], [], []),
  (461, .aload_n 0, 1, 0, [], [], []),
  (462, .iload 4, 2, 4, [], [], []),
  (464, .iconst 3, 1, 0, [], [], []),
  (465, .iadd, 1, 0, [], [], []),
  (466, .iaload, 1, 0, [], [], []),
  (467, .invokevirtual 60, 3, 194, [1, 3], [10], []),
  (470, .if_icmp .eq 1476, 3, 1946, [], [], []),
  (473, .iconst 0, 1, 0, [], [], []),
  (474, .ireturn, 1, 0, [], [], []),
  (475, .aload_n 1, 1, 1, [], [], []),
  (476, .aload_n 0, 1, 0, [], [], []),
  (477, .iload 4, 2, 4, [], [], []),
  (479, .iconst 1, 1, 0, [], [], []),
  (480, .iadd, 1, 0, [], [], []),
  (481, .iaload, 1, 0, [], [], []),
  (482, .aload_n 0, 1, 0, [], [], []),
  (483, .iload 4, 2, 4, [], [], []),
  (485, .iconst 2, 1, 0, [], [], []),
  (486, .iadd, 1, 0, [], [], []),
  (487, .iaload, 1, 0, [], [], []),
  (488, .aload_n 0, 1, 0, [], [], []),
  (489, .iload 4, 2, 4, [], [], []),
  (491, .iconst 3, 1, 0, [], [], []),
  (492, .iadd, 1, 0, [], [], []),
  (493, .iaload, 1, 0, [], [], []),
  (494, .invokevirtual 61, 3, 107, [1, 3], [9], []),
  (497, .aload_n 2, 1, 2, [], [], []),
  (498, .aload_n 0, 1, 0, [], [], []),
  (499, .iload 4, 2, 4, [], [], []),
  (501, .iconst 1, 1, 0, [], [], []),
  (502, .iadd, 1, 0, [], [], []),
  (503, .iaload, 1, 0, [], [], []),
  (504, .aload_n 0, 1, 0, [], [], []),
  (505, .iload 4, 2, 4, [], [], []),
  (507, .iconst 2, 1, 0, [], [], []),
  (508, .iadd, 1, 0, [], [], []),
  (509, .iaload, 1, 0, [], [], []),
  (510, .aload_n 0, 1, 0, [], [], []),
  (511, .iload 4, 2, 4, [], [], []),
  (513, .iconst 3, 1, 0, [], [], []),
  (514, .iadd, 1, 0, [], [], []),
  (515, .iaload, 1, 0, [], [], []),
  (516, .invokevirtual 64, 3, 195, [1, 3], [10], []),
  (519, .if_icmp .eq 1427, 3, 1946, [], [], []),
  (522, .iconst 0, 1, 0, [], [], []),
  (523, .ireturn, 1, 0, [], [], []),
  (524, .aload_n 1, 1, 1, [], [], []),
  (525, .aload_n 0, 1, 0, [], [], []),
  (526, .iload 4, 2, 4, [], [], []),
  (528, .iconst 1, 1, 0, [], [], []),
  (529, .iadd, 1, 0, [], [], []),
  (530, .iaload, 1, 0, [], [], []),
  (531, .aload_n 0, 1, 0, [], [], []),
  (532, .iload 4, 2, 4, [], [], []),
  (534, .iconst 2, 1, 0, [], [], []),
  (535, .iadd, 1, 0, [], [], []),
  (536, .iaload, 1, 0, [], [], []),
  (537, .aload_n 0, 1, 0, [], [], []),
  (538, .iload 4, 2, 4, [], [], []),
  (540, .iconst 3, 1, 0, [], [], []),
  (541, .iadd, 1, 0, [], [], []),
  (542, .iaload, 1, 0, [], [], []),
  (543, .invokevirtual 65, 3, 108, [1, 3], [9], []),
  (546, .aload_n 2, 1, 2, [], [], []),
  (547, .aload_n 0, 1, 0, [], [], []),
  (548, .iload 4, 2, 4, [], [], []),
  (550, .iconst 1, 1, 0, [], [], []),
  (551, .iadd, 1, 0, [], [], []),
  (552, .iaload, 1, 0, [], [], []),
  (553, .aload_n 0, 1, 0, [], [], []),
  (554, .iload 4, 2, 4, [], [], []),
  (556, .iconst 2, 1, 0, [], [], []),
  (557, .iadd, 1, 0, [], [], []),
  (558, .iaload, 1, 0, [], [], []),
  (559, .aload_n 0, 1, 0, [], [], []),
  (560, .iload 4, 2, 4, [], [], []),
  (562, .iconst 3, 1, 0, [], [], []),
  (563, .iadd, 1, 0, [], [], []),
  (564, .iaload, 1, 0, [], [], []),
  (565, .invokevirtual 68, 3, 196, [1, 3], [10], []),
  (568, .if_icmp .eq 1378, 3, 1946, [], [], []),
  (571, .iconst 0, 1, 0, [], [], []),
  (572, .ireturn, 1, 0, [], [], []),
  (573, .aload_n 1, 1, 1, [], [], []),
  (574, .aload_n 0, 1, 0, [], [], []),
  (575, .iload 4, 2, 4, [], [], []),
  (577, .iconst 1, 1, 0, [], [], []),
  (578, .iadd, 1, 0, [], [], []),
  (579, .iaload, 1, 0, [], [], []),
  (580, .invokevirtual 69, 3, 109, [1, 1], [9], []),
  (583, .aload_n 2, 1, 2, [], [], []),
  (584, .aload_n 0, 1, 0, [], [], []),
  (585, .iload 4, 2, 4, [], [], []),
  (587, .iconst 1, 1, 0, [], [], []),
  (588, .iadd, 1, 0, [], [], []),
  (589, .iaload, 1, 0, [], [], []),
  (590, .invokevirtual 72, 3, 198, [1, 1], [10], []),
  (593, .if_icmp .eq 1353, 3, 1946, [], [], []),
  (596, .iconst 0, 1, 0, [], [], []),
  (597, .ireturn, 1, 0, [], [], []),
  (598, .aload_n 1, 1, 1, [], [], []),
  (599, .aload_n 0, 1, 0, [], [], []),
  (600, .iload 4, 2, 4, [], [], []),
  (602, .iconst 1, 1, 0, [], [], []),
  (603, .iadd, 1, 0, [], [], []),
  (604, .iaload, 1, 0, [], [], []),
  (605, .aload_n 0, 1, 0, [], [], []),
  (606, .iload 4, 2, 4, [], [], []),
  (608, .iconst 2, 1, 0, [], [], []),
  (609, .iadd, 1, 0, [], [], []),
  (610, .iaload, 1, 0, [], [], []),
  (611, .invokevirtual 73, 3, 110, [1, 2], [9], []),
  (614, .aload_n 2, 1, 2, [], [], []),
  (615, .aload_n 0, 1, 0, [], [], []),
  (616, .iload 4, 2, 4, [], [], []),
  (618, .iconst 1, 1, 0, [], [], []),
  (619, .iadd, 1, 0, [], [], []),
  (620, .iaload, 1, 0, [], [], []),
  (621, .aload_n 0, 1, 0, [], [], []),
  (622, .iload 4, 2, 4, [], [], []),
  (624, .iconst 2, 1, 0, [], [], []),
  (625, .iadd, 1, 0, [], [], []),
  (626, .iaload, 1, 0, [], [], []),
  (627, .invokevirtual 76, 3, 199, [1, 2], [10], []),
  (630, .if_icmp .eq 1316, 3, 1946, [], [], []),
  (633, .iconst 0, 1, 0, [], [], []),
  (634, .ireturn, 1, 0, [], [], []),
  (635, .aload_n 1, 1, 1, [], [], []),
  (636, .aload_n 0, 1, 0, [], [], []),
  (637, .iload 4, 2, 4, [], [], []),
  (639, .iconst 1, 1, 0, [], [], []),
  (640, .iadd, 1, 0, [], [], []),
  (641, .iaload, 1, 0, [], [], []),
  (642, .aload_n 0, 1, 0, [], [], []),
  (643, .iload 4, 2, 4, [], [], []),
  (645, .iconst 2, 1, 0, [], [], []),
  (646, .iadd, 1, 0, [], [], []),
  (647, .iaload, 1, 0, [], [], []),
  (648, .aload_n 3, 1, 3, [], [], []),
  (649, .invokestatic 77, 3, 279, [1, 4], [], []),
  (652, .istore 5, 2, 5, [], [], []),
  (654, .aload_n 2, 1, 2, [], [], []),
  (655, .aload_n 0, 1, 0, [], [], []),
  (656, .iload 4, 2, 4, [], [], []),
  (658, .iconst 1, 1, 0, [], [], []),
  (659, .iadd, 1, 0, [], [], []),
  (660, .iaload, 1, 0, [], [], []),
  (661, .aload_n 0, 1, 0, [], [], []),
  (662, .iload 4, 2, 4, [], [], []),
  (664, .iconst 2, 1, 0, [], [], []),
  (665, .iadd, 1, 0, [], [], []),
  (666, .iaload, 1, 0, [], [], []),
  (667, .invokevirtual 82, 3, 200, [1, 2], [10], []),
  (670, .istore 6, 2, 6, [], [], []),
  (672, .aload_n 2, 1, 2, [], [], []),
  (673, .invokevirtual 83, 3, 149, [1, 0], [10], []),
  (676, .iload 5, 2, 5, [], [], []),
  (678, .if_icmp .eq 5, 3, 683, [], [], []),
  (681, .iconst 0, 1, 0, [], [], []),
  (682, .ireturn, 1, 0, [], [], []),
  (683, .iload 5, 2, 5, [], [], []),
  (685, .ifCond .ne 15, 3, 700, [], [], []),
  (688, .aload_n 3, 1, 3, [], [], []),
  (689, .iconst 0, 1, 0, [], [], []),
  (690, .laload, 1, 0, [], [], []),
  (691, .iload 6, 2, 6, [], [], []),
  (693, .i2l, 1, 0, [], [], []),
  (694, .lcmp, 1, 0, [], [], []),
  (695, .ifCond .eq 5, 3, 700, [], [], []),
  (698, .iconst 0, 1, 0, [], [], []),
  (699, .ireturn, 1, 0, [], [], []),
  (700, .goto 1246, 3, 1946, [], [], []),
  (703, .aload_n 1, 1, 1, [], [], []),
  (704, .aload_n 0, 1, 0, [], [], []),
  (705, .iload 4, 2, 4, [], [], []),
  (707, .iconst 1, 1, 0, [], [], []),
  (708, .iadd, 1, 0, [], [], []),
  (709, .iaload, 1, 0, [], [], []),
  (710, .invokevirtual 86, 3, 112, [1, 1], [9], []),
  (713, .aload_n 2, 1, 2, [], [], []),
  (714, .aload_n 0, 1, 0, [], [], []),
  (715, .iload 4, 2, 4, [], [], []),
  (717, .iconst 1, 1, 0, [], [], []),
  (718, .iadd, 1, 0, [], [], []),
  (719, .iaload, 1, 0, [], [], []),
  (720, .invokevirtual 89, 3, 201, [1, 1], [10], []),
  (723, .if_icmp .eq 1223, 3, 1946, [], [], []),
  (726, .iconst 0, 1, 0, [], [], []),
  (727, .ireturn, 1, 0, [], [], []),
  (728, .aload_n 1, 1, 1, [], [], []),
  (729, .aload_n 0, 1, 0, [], [], []),
  (730, .iload 4, 2, 4, [], [], []),
  (732, .iconst 1, 1, 0, [], [], []),
  (733, .iadd, 1, 0, [], [], []),
  (734, .iaload, 1, 0, [], [], []),
  (735, .aload_n 0, 1, 0, [], [], []),
  (736, .iload 4, 2, 4, [], [], []),
  (738, .iconst 2, 1, 0, [], [], []),
  (739, .iadd, 1, 0, [], [], []),
  (740, .iaload, 1, 0, [], [], []),
  (741, .aload_n 0, 1, 0, [], [], []),
  (742, .iload 4, 2, 4, [], [], []),
  (744, .iconst 3, 1, 0, [], [], []),
  (745, .iadd, 1, 0, [], [], []),
  (746, .iaload, 1, 0, [], [], []),
  (747, .invokevirtual 90, 3, 113, [1, 3], [9], []),
  (750, .aload_n 2, 1, 2, [], [], []),
  (751, .aload_n 0, 1, 0, [], [], []),
  (752, .iload 4, 2, 4, [], [], []),
  (754, .iconst 1, 1, 0, [], [], []),
  (755, .iadd, 1, 0, [], [], []),
  (756, .iaload, 1, 0, [], [], []),
  (757, .aload_n 0, 1, 0, [], [], []),
  (758, .iload 4, 2, 4, [], [], []),
  (760, .iconst 2, 1, 0, [], [], []),
  (761, .iadd, 1, 0, [], [], []),
  (762, .iaload, 1, 0, [], [], []),
  (763, .aload_n 0, 1, 0, [], [], []),
  (764, .iload 4, 2, 4, [], [], []),
  (766, .iconst 3, 1, 0, [], [], []),
  (767, .iadd, 1, 0, [], [], []),
  (768, .iaload, 1, 0, [], [], []),
  (769, .invokevirtual 93, 3, 202, [1, 3], [10], []),
  (772, .if_icmp .eq 1174, 3, 1946, [], [], []),
  (775, .iconst 0, 1, 0, [], [], []),
  (776, .ireturn, 1, 0, [], [], []),
  (777, .aload_n 1, 1, 1, [], [], []),
  (778, .aload_n 0, 1, 0, [], [], []),
  (779, .iload 4, 2, 4, [], [], []),
  (781, .iconst 1, 1, 0, [], [], []),
  (782, .iadd, 1, 0, [], [], []),
  (783, .iaload, 1, 0, [], [], []),
  (784, .aload_n 0, 1, 0, [], [], []),
  (785, .iload 4, 2, 4, [], [], []),
  (787, .iconst 2, 1, 0, [], [], []),
  (788, .iadd, 1, 0, [], [], []),
  (789, .iaload, 1, 0, [], [], []),
  (790, .invokevirtual 94, 3, 114, [1, 2], [9], []),
  (793, .aload_n 2, 1, 2, [], [], []),
  (794, .aload_n 0, 1, 0, [], [], []),
  (795, .iload 4, 2, 4, [], [], []),
  (797, .iconst 1, 1, 0, [], [], []),
  (798, .iadd, 1, 0, [], [], []),
  (799, .iaload, 1, 0, [], [], []),
  (800, .aload_n 0, 1, 0, [], [], []),
  (801, .iload 4, 2, 4, [], [], []),
  (803, .iconst 2, 1, 0, [], [], []),
  (804, .iadd, 1, 0, [], [], []),
  (805, .iaload, 1, 0, [], [], []),
  (806, .invokevirtual 97, 3, 207, [1, 2], [10], []),
  (809, .if_icmp .eq 1137, 3, 1946, [], [], []),
  (812, .iconst 0, 1, 0, [], [], []),
  (813, .ireturn, 1, 0, [], [], []),
  (814, .aload_n 1, 1, 1, [], [], []),
  (815, .aload_n 0, 1, 0, [], [], []),
  (816, .iload 4, 2, 4, [], [], []),
  (818, .iconst 1, 1, 0, [], [], []),
  (819, .iadd, 1, 0, [], [], []),
  (820, .iaload, 1, 0, [], [], []),
  (821, .aload_n 0, 1, 0, [], [], []),
  (822, .iload 4, 2, 4, [], [], []),
  (824, .iconst 2, 1, 0, [], [], []),
  (825, .iadd, 1, 0, [], [], []),
  (826, .iaload, 1, 0, [], [], []),
  (827, .aload_n 0, 1, 0, [], [], []),
  (828, .iload 4, 2, 4, [], [], []),
  (830, .iconst 3, 1, 0, [], [], []),
  (831, .iadd, 1, 0, [], [], []),
  (832, .iaload, 1, 0, [], [], []),
  (833, .aload_n 3, 1, 3, [], [], []),
  (834, .invokestatic 98, 3, 280, [1, 5], [], []),
  (837, .istore 5, 2, 5, [], [], []),
  (839, .aload_n 2, 1, 2, [], [], []),
  (840, .aload_n 0, 1, 0, [], [], []),
  (841, .iload 4, 2, 4, [], [], []),
  (843, .iconst 1, 1, 0, [], [], []),
  (844, .iadd, 1, 0, [], [], []),
  (845, .iaload, 1, 0, [], [], []),
  (846, .aload_n 0, 1, 0, [], [], []),
  (847, .iload 4, 2, 4, [], [], []),
  (849, .iconst 2, 1, 0, [], [], []),
  (850, .iadd, 1, 0, [], [], []),
  (851, .iaload, 1, 0, [], [], []),
  (852, .aload_n 0, 1, 0, [], [], []),
  (853, .iload 4, 2, 4, [], [], []),
  (855, .iconst 3, 1, 0, [], [], []),
  (856, .iadd, 1, 0, [], [], []),
  (857, .iaload, 1, 0, [], [], []),
  (858, .invokevirtual 101, 3, 211, [1, 3], [10], []),
  (861, .istore 6, 2, 6, [], [], []),
  (863, .aload_n 2, 1, 2, [], [], []),
  (864, .invokevirtual 83, 3, 149, [1, 0], [10], []),
  (867, .iload 5, 2, 5, [], [], []),
  (869, .if_icmp .eq 5, 3, 874, [], [], []),
  (872, .iconst 0, 1, 0, [], [], []),
  (873, .ireturn, 1, 0, [], [], []),
  (874, .iload 5, 2, 5, [], [], []),
  (876, .ifCond .ne 15, 3, 891, [], [], []),
  (879, .aload_n 3, 1, 3, [], [], []),
  (880, .iconst 0, 1, 0, [], [], []),
  (881, .laload, 1, 0, [], [], []),
  (882, .iload 6, 2, 6, [], [], []),
  (884, .i2l, 1, 0, [], [], []),
  (885, .lcmp, 1, 0, [], [], []),
  (886, .ifCond .eq 5, 3, 891, [], [], []),
  (889, .iconst 0, 1, 0, [], [], []),
  (890, .ireturn, 1, 0, [], [], []),
  (891, .goto 1055, 3, 1946, [], [], []),
  (894, .aload_n 1, 1, 1, [], [], []),
  (895, .aload_n 0, 1, 0, [], [], []),
  (896, .iload 4, 2, 4, [], [], []),
  (898, .iconst 1, 1, 0, [], [], []),
  (899, .iadd, 1, 0, [], [], []),
  (900, .iaload, 1, 0, [], [], []),
  (901, .aload_n 3, 1, 3, [], [], []),
  (902, .invokestatic 102, 3, 281, [1, 3], [], []),
  (905, .istore 5, 2, 5, [], [], []),
  (907, .aload_n 2, 1, 2, [], [], []),
  (908, .aload_n 0, 1, 0, [], [], []),
  (909, .iload 4, 2, 4, [], [], []),
  (911, .iconst 1, 1, 0, [], [], []),
  (912, .iadd, 1, 0, [], [], []),
  (913, .iaload, 1, 0, [], [], []),
  (914, .invokevirtual 105, 3, 212, [1, 1], [10], []),
  (917, .istore 6, 2, 6, [], [], []),
  (919, .aload_n 2, 1, 2, [], [], []),
  (920, .invokevirtual 83, 3, 149, [1, 0], [10], []),
  (923, .iload 5, 2, 5, [], [], []),
  (925, .if_icmp .eq 5, 3, 930, [], [], []),
  (928, .iconst 0, 1, 0, [], [], []),
  (929, .ireturn, 1, 0, [], [], []),
  (930, .iload 5, 2, 5, [], [], []),
  (932, .ifCond .ne 15, 3, 947, [], [], []),
  (935, .aload_n 3, 1, 3, [], [], []),
  (936, .iconst 0, 1, 0, [], [], []),
  (937, .laload, 1, 0, [], [], []),
  (938, .iload 6, 2, 6, [], [], []),
  (940, .i2l, 1, 0, [], [], []),
  (941, .lcmp, 1, 0, [], [], []),
  (942, .ifCond .eq 5, 3, 947, [], [], []),
  (945, .iconst 0, 1, 0, [], [], []),
  (946, .ireturn, 1, 0, [], [], []),
  (947, .goto 999, 3, 1946, [], [], []),
  (950, .aload_n 1, 1, 1, [], [], []),
  (951, .aload_n 0, 1, 0, [], [], []),
  (952, .iload 4, 2, 4, [], [], []),
  (954, .iconst 1, 1, 0, [], [], []),
  (955, .iadd, 1, 0, [], [], []),
  (956, .iaload, 1, 0, [], [], []),
  (957, .aload_n 0, 1, 0, [], [], []),
  (958, .iload 4, 2, 4, [], [], []),
  (960, .iconst 2, 1, 0, [], [], []),
  (961, .iadd, 1, 0, [], [], []),
  (962, .iaload, 1, 0, [], [], []),
  (963, .aload_n 3, 1, 3, [], [], []),
  (964, .invokestatic 106, 3, 282, [1, 4], [], []),
  (967, .istore 5, 2, 5, [], [], []),
  (969, .aload_n 2, 1, 2, [], [], []),
  (970, .aload_n 0, 1, 0, [], [], []),
  (971, .iload 4, 2, 4, [], [], []),
  (973, .iconst 1, 1, 0, [], [], []),
  (974, .iadd, 1, 0, [], [], []),
  (975, .iaload, 1, 0, [], [], []),
  (976, .aload_n 0, 1, 0, [], [], []),
  (977, .iload 4, 2, 4, [], [], []),
  (979, .iconst 2, 1, 0, [], [], []),
  (980, .iadd, 1, 0, [], [], []),
  (981, .iaload, 1, 0, [], [], []),
  (982, .invokevirtual 108, 3, 213, [1, 2], [10], []),
  (985, .istore 6, 2, 6, [], [], []),
  (987, .aload_n 2, 1, 2, [], [], []),
  (988, .invokevirtual 83, 3, 149, [1, 0], [10], []),
  (991, .iload 5, 2, 5, [], [], []),
  (993, .if_icmp .eq 5, 3, 998, [], [], []),
  (996, .iconst 0, 1, 0, [], [], []),
  (997, .ireturn, 1, 0, [], [], []),
  (998, .iload 5, 2, 5, [], [], []),
  (1000, .ifCond .ne 15, 3, 1015, [], [], []),
  (1003, .aload_n 3, 1, 3, [], [], []),
  (1004, .iconst 0, 1, 0, [], [], []),
  (1005, .laload, 1, 0, [], [], []),
  (1006, .iload 6, 2, 6, [], [], []),
  (1008, .i2l, 1, 0, [], [], []),
  (1009, .lcmp, 1, 0, [], [], []),
  (1010, .ifCond .eq 5, 3, 1015, [], [], []),
  (1013, .iconst 0, 1, 0, [], [], []),
  (1014, .ireturn, 1, 0, [], [], []),
  (1015, .goto 931, 3, 1946, [], [], []),
  (1018, .aload_n 1, 1, 1, [], [], []),
  (1019, .aload_n 0, 1, 0, [], [], []),
  (1020, .iload 4, 2, 4, [], [], []),
  (1022, .iconst 1, 1, 0, [], [], []),
  (1023, .iadd, 1, 0, [], [], []),
  (1024, .iaload, 1, 0, [], [], []),
  (1025, .aload_n 0, 1, 0, [], [], []),
  (1026, .iload 4, 2, 4, [], [], []),
  (1028, .iconst 2, 1, 0, [], [], []),
  (1029, .iadd, 1, 0, [], [], []),
  (1030, .iaload, 1, 0, [], [], []),
  (1031, .invokevirtual 109, 3, 118, [1, 2], [9], []),
  (1034, .aload_n 2, 1, 2, [], [], []),
  (1035, .aload_n 0, 1, 0, [], [], []),
  (1036, .iload 4, 2, 4, [], [], []),
  (1038, .iconst 1, 1, 0, [], [], []),
  (1039, .iadd, 1, 0, [], [], []),
  (1040, .iaload, 1, 0, [], [], []),
  (1041, .aload_n 0, 1, 0, [], [], []),
  (1042, .iload 4, 2, 4, [], [], []),
  (1044, .iconst 2, 1, 0, [], [], []),
  (1045, .iadd, 1, 0, [], [], []),
  (1046, .iaload, 1, 0, [], [], []),
  (1047, .invokevirtual 112, 3, 215, [1, 2], [10], []),
  (1050, .if_icmp .eq 896, 3, 1946, [], [], []),
  (1053, .iconst 0, 1, 0, [], [], []),
  (1054, .ireturn, 1, 0, [], [], []),
  (1055, .aload_n 1, 1, 1, [], [], []),
  (1056, .aload_n 0, 1, 0, [], [], []),
  (1057, .iload 4, 2, 4, [], [], []),
  (1059, .iconst 1, 1, 0, [], [], []),
  (1060, .iadd, 1, 0, [], [], []),
  (1061, .iaload, 1, 0, [], [], []),
  (1062, .aload_n 0, 1, 0, [], [], []),
  (1063, .iload 4, 2, 4, [], [], []),
  (1065, .iconst 2, 1, 0, [], [], []),
  (1066, .iadd, 1, 0, [], [], []),
  (1067, .iaload, 1, 0, [], [], []),
  (1068, .invokevirtual 113, 3, 119, [1, 2], [9], []),
  (1071, .aload_n 2, 1, 2, [], [], []),
  (1072, .aload_n 0, 1, 0, [], [], []),
  (1073, .iload 4, 2, 4, [], [], []),
  (1075, .iconst 1, 1, 0, [], [], []),
  (1076, .iadd, 1, 0, [], [], []),
  (1077, .iaload, 1, 0, [], [], []),
  (1078, .aload_n 0, 1, 0, [], [], []),
  (1079, .iload 4, 2, 4, [], [], []),
  (1081, .iconst 2, 1, 0, [], [], []),
  (1082, .iadd, 1, 0, [], [], []),
  (1083, .iaload, 1, 0, [], [], []),
  (1084, .invokevirtual 116, 3, 217, [1, 2], [10], []),
  (1087, .if_icmp .eq 859, 3, 1946, [], [], []),
  (1090, .iconst 0, 1, 0, [], [], []),
  (1091, .ireturn, 1, 0, [], [], []),
  (1092, .aload_n 1, 1, 1, [], [], []),
  (1093, .aload_n 0, 1, 0, [], [], []),
  (1094, .iload 4, 2, 4, [], [], []),
  (1096, .iconst 1, 1, 0, [], [], []),
  (1097, .iadd, 1, 0, [], [], []),
  (1098, .iaload, 1, 0, [], [], []),
  (1099, .invokevirtual 117, 3, 120, [1, 1], [9], []),
  (1102, .aload_n 2, 1, 2, [], [], []),
  (1103, .aload_n 0, 1, 0, [], [], []),
  (1104, .iload 4, 2, 4, [], [], []),
  (1106, .iconst 1, 1, 0, [], [], []),
  (1107, .iadd, 1, 0, [], [], []),
  (1108, .iaload, 1, 0, [], [], []),
  (1109, .invokevirtual 120, 3, 220, [1, 1], [10], []),
  (1112, .if_icmp .eq 834, 3, 1946, [], [], []),
  (1115, .iconst 0, 1, 0, [], [], []),
  (1116, .ireturn, 1, 0, [], [], []),
  (1117, .aload_n 1, 1, 1, [], [], []),
  (1118, .aload_n 0, 1, 0, [], [], []),
  (1119, .iload 4, 2, 4, [], [], []),
  (1121, .iconst 1, 1, 0, [], [], []),
  (1122, .iadd, 1, 0, [], [], []),
  (1123, .iaload, 1, 0, [], [], []),
  (1124, .invokevirtual 121, 3, 122, [1, 1], [9], []),
  (1127, .aload_n 2, 1, 2, [], [], []),
  (1128, .aload_n 0, 1, 0, [], [], []),
  (1129, .iload 4, 2, 4, [], [], []),
  (1131, .iconst 1, 1, 0, [], [], []),
  (1132, .iadd, 1, 0, [], [], []),
  (1133, .iaload, 1, 0, [], [], []),
  (1134, .invokevirtual 124, 3, 221, [1, 1], [10], []),
  (1137, .if_icmp .eq 809, 3, 1946, [], [], []),
  (1140, .iconst 0, 1, 0, [], [], []),
  (1141, .ireturn, 1, 0, [], [], []),
  (1142, .aload_n 1, 1, 1, [], [], []),
  (1143, .aload_n 0, 1, 0, [], [], []),
  (1144, .iload 4, 2, 4, [], [], []),
  (1146, .iconst 1, 1, 0, [], [], []),
  (1147, .iadd, 1, 0, [], [], []),
  (1148, .iaload, 1, 0, [], [], []),
  (1149, .aload_n 0, 1, 0, [], [], []),
  (1150, .iload 4, 2, 4, [], [], []),
  (1152, .iconst 2, 1, 0, [], [], []),
  (1153, .iadd, 1, 0, [], [], []),
  (1154, .iaload, 1, 0, [], [], []),
  (1155, .aload_n 0, 1, 0, [], [], []),
  (1156, .iload 4, 2, 4, [], [], []),
  (1158, .iconst 3, 1, 0, [], [], []),
  (1159, .iadd, 1, 0, [], [], []),
  (1160, .iaload, 1, 0, [], [], []),
  (1161, .invokevirtual 125, 3, 123, [1, 3], [9], []),
  (1164, .aload_n 2, 1, 2, [], [], []),
  (1165, .aload_n 0, 1, 0, [], [], []),
  (1166, .iload 4, 2, 4, [], [], []),
  (1168, .iconst 1, 1, 0, [], [], []),
  (1169, .iadd, 1, 0, [], [], []),
  (1170, .iaload, 1, 0, [], [], []),
  (1171, .aload_n 0, 1, 0, [], [], []),
  (1172, .iload 4, 2, 4, [], [], []),
  (1174, .iconst 2, 1, 0, [], [], []),
  (1175, .iadd, 1, 0, [], [], []),
  (1176, .iaload, 1, 0, [], [], []),
  (1177, .aload_n 0, 1, 0, [], [], []),
  (1178, .iload 4, 2, 4, [], [], []),
  (1180, .iconst 3, 1, 0, [], [], []),
  (1181, .iadd, 1, 0, [], [], []),
  (1182, .iaload, 1, 0, [], [], []),
  (1183, .invokevirtual 128, 3, 239, [1, 3], [10], []),
  (1186, .if_icmp .eq 760, 3, 1946, [], [], []),
  (1189, .iconst 0, 1, 0, [], [], []),
  (1190, .ireturn, 1, 0, [], [], []),
  (1191, .aload_n 1, 1, 1, [], [], []),
  (1192, .aload_n 0, 1, 0, [], [], []),
  (1193, .iload 4, 2, 4, [], [], []),
  (1195, .iconst 1, 1, 0, [], [], []),
  (1196, .iadd, 1, 0, [], [], []),
  (1197, .iaload, 1, 0, [], [], []),
  (1198, .aload_n 0, 1, 0, [], [], []),
  (1199, .iload 4, 2, 4, [], [], []),
  (1201, .iconst 2, 1, 0, [], [], []),
  (1202, .iadd, 1, 0, [], [], []),
  (1203, .iaload, 1, 0, [], [], []),
  (1204, .aload_n 0, 1, 0, [], [], []),
  (1205, .iload 4, 2, 4, [], [], []),
  (1207, .iconst 3, 1, 0, [], [], []),
  (1208, .iadd, 1, 0, [], [], []),
  (1209, .iaload, 1, 0, [], [], []),
  (1210, .invokevirtual 129, 3, 125, [1, 3], [9], []),
  (1213, .aload_n 2, 1, 2, [], [], []),
  (1214, .aload_n 0, 1, 0, [], [], []),
  (1215, .iload 4, 2, 4, [], [], []),
  (1217, .iconst 1, 1, 0, [], [], []),
  (1218, .iadd, 1, 0, [], [], []),
  (1219, .iaload, 1, 0, [], [], []),
  (1220, .aload_n 0, 1, 0, [], [], []),
  (1221, .iload 4, 2, 4, [], [], []),
  (1223, .iconst 2, 1, 0, [], [], []),
  (1224, .iadd, 1, 0, [], [], []),
  (1225, .iaload, 1, 0, [], [], []),
  (1226, .aload_n 0, 1, 0, [], [], []),
  (1227, .iload 4, 2, 4, [], [], []),
  (1229, .iconst 3, 1, 0, [], [], []),
  (1230, .iadd, 1, 0, [], [], []),
  (1231, .iaload, 1, 0, [], [], []),
  (1232, .invokevirtual 132, 3, 240, [1, 3], [10], []),
  (1235, .if_icmp .eq 711, 3, 1946, [], [], []),
  (1238, .iconst 0, 1, 0, [], [], []),
  (1239, .ireturn, 1, 0, [], [], []),
  (1240, .aload_n 1, 1, 1, [], [], []),
  (1241, .aload_n 0, 1, 0, [], [], []),
  (1242, .iload 4, 2, 4, [], [], []),
  (1244, .iconst 1, 1, 0, [], [], []),
  (1245, .iadd, 1, 0, [], [], []),
  (1246, .iaload, 1, 0, [], [], []),
  (1247, .aload_n 0, 1, 0, [], [], []),
  (1248, .iload 4, 2, 4, [], [], []),
  (1250, .iconst 2, 1, 0, [], [], []),
  (1251, .iadd, 1, 0, [], [], []),
  (1252, .iaload, 1, 0, [], [], []),
  (1253, .aload_n 0, 1, 0, [], [], []),
  (1254, .iload 4, 2, 4, [], [], []),
  (1256, .iconst 3, 1, 0, [], [], []),
  (1257, .iadd, 1, 0, [], [], []),
  (1258, .iaload, 1, 0, [], [], []),
  (1259, .invokevirtual 133, 3, 126, [1, 3], [9], []),
  (1262, .aload_n 2, 1, 2, [], [], []),
  (1263, .aload_n 0, 1, 0, [], [], []),
  (1264, .iload 4, 2, 4, [], [], []),
  (1266, .iconst 1, 1, 0, [], [], []),
  (1267, .iadd, 1, 0, [], [], []),
  (1268, .iaload, 1, 0, [], [], []),
  (1269, .aload_n 0, 1, 0, [], [], []),
  (1270, .iload 4, 2, 4, [], [], []),
  (1272, .iconst 2, 1, 0, [], [], []),
  (1273, .iadd, 1, 0, [], [], []),
  (1274, .iaload, 1, 0, [], [], []),
  (1275, .aload_n 0, 1, 0, [], [], []),
  (1276, .iload 4, 2, 4, [], [], []),
  (1278, .iconst 3, 1, 0, [], [], []),
  (1279, .iadd, 1, 0, [], [], []),
  (1280, .iaload, 1, 0, [], [], []),
  (1281, .invokevirtual 136, 3, 241, [1, 3], [10], []),
  (1284, .if_icmp .eq 662, 3, 1946, [], [], []),
  (1287, .iconst 0, 1, 0, [], [], []),
  (1288, .ireturn, 1, 0, [], [], []),
  (1289, .aload_n 1, 1, 1, [], [], []),
  (1290, .aload_n 0, 1, 0, [], [], []),
  (1291, .iload 4, 2, 4, [], [], []),
  (1293, .iconst 1, 1, 0, [], [], []),
  (1294, .iadd, 1, 0, [], [], []),
  (1295, .iaload, 1, 0, [], [], []),
  (1296, .aload_n 0, 1, 0, [], [], []),
  (1297, .iload 4, 2, 4, [], [], []),
  (1299, .iconst 2, 1, 0, [], [], []),
  (1300, .iadd, 1, 0, [], [], []),
  (1301, .iaload, 1, 0, [], [], []),
  (1302, .aload_n 0, 1, 0, [], [], []),
  (1303, .iload 4, 2, 4, [], [], []),
  (1305, .iconst 3, 1, 0, [], [], []),
  (1306, .iadd, 1, 0, [], [], []),
  (1307, .iaload, 1, 0, [], [], []),
  (1308, .invokevirtual 137, 3, 127, [1, 3], [9], []),
  (1311, .aload_n 2, 1, 2, [], [], []),
  (1312, .aload_n 0, 1, 0, [], [], []),
  (1313, .iload 4, 2, 4, [], [], []),
  (1315, .iconst 1, 1, 0, [], [], []),
  (1316, .iadd, 1, 0, [], [], []),
  (1317, .iaload, 1, 0, [], [], []),
  (1318, .aload_n 0, 1, 0, [], [], []),
  (1319, .iload 4, 2, 4, [], [], []),
  (1321, .iconst 2, 1, 0, [], [], []),
  (1322, .iadd, 1, 0, [], [], []),
  (1323, .iaload, 1, 0, [], [], []),
  (1324, .aload_n 0, 1, 0, [], [], []),
  (1325, .iload 4, 2, 4, [], [], []),
  (1327, .iconst 3, 1, 0, [], [], []),
  (1328, .iadd, 1, 0, [], [], []),
  (1329, .iaload, 1, 0, [], [], []),
  (1330, .invokevirtual 140, 3, 242, [1, 3], [10], []),
  (1333, .if_icmp .eq 613, 3, 1946, [], [], []),
  (1336, .iconst 0, 1, 0, [], [], []),
  (1337, .ireturn, 1, 0, [], [], []),
  (1338, .aload_n 1, 1, 1, [], [], []),
  (1339, .aload_n 0, 1, 0, [], [], []),
  (1340, .iload 4, 2, 4, [], [], []),
  (1342, .iconst 1, 1, 0, [], [], []),
  (1343, .iadd, 1, 0, [], [], []),
  (1344, .iaload, 1, 0, [], [], []),
  (1345, .aload_n 0, 1, 0, [], [], []),
  (1346, .iload 4, 2, 4, [], [], []),
  (1348, .iconst 2, 1, 0, [], [], []),
  (1349, .iadd, 1, 0, [], [], []),
  (1350, .iaload, 1, 0, [], [], []),
  (1351, .invokevirtual 141, 3, 128, [1, 2], [9], []),
  (1354, .aload_n 2, 1, 2, [], [], []),
  (1355, .aload_n 0, 1, 0, [], [], []),
  (1356, .iload 4, 2, 4, [], [], []),
  (1358, .iconst 1, 1, 0, [], [], []),
  (1359, .iadd, 1, 0, [], [], []),
  (1360, .iaload, 1, 0, [], [], []),
  (1361, .aload_n 0, 1, 0, [], [], []),
  (1362, .iload 4, 2, 4, [], [], []),
  (1364, .iconst 2, 1, 0, [], [], []),
  (1365, .iadd, 1, 0, [], [], []),
  (1366, .iaload, 1, 0, [], [], []),
  (1367, .invokevirtual 144, 3, 243, [1, 2], [10], []),
  (1370, .if_icmp .eq 576, 3, 1946, [], [], []),
  (1373, .iconst 0, 1, 0, [], [], []),
  (1374, .ireturn, 1, 0, [], [], []),
  (1375, .aload_n 1, 1, 1, [], [], []),
  (1376, .aload_n 0, 1, 0, [], [], []),
  (1377, .iload 4, 2, 4, [], [], []),
  (1379, .iconst 1, 1, 0, [], [], []),
  (1380, .iadd, 1, 0, [], [], []),
  (1381, .iaload, 1, 0, [], [], []),
  (1382, .aload_n 0, 1, 0, [], [], []),
  (1383, .iload 4, 2, 4, [], [], []),
  (1385, .iconst 2, 1, 0, [], [], []),
  (1386, .iadd, 1, 0, [], [], []),
  (1387, .iaload, 1, 0, [], [], []),
  (1388, .invokevirtual 145, 3, 129, [1, 2], [9], []),
  (1391, .aload_n 2, 1, 2, [], [], []),
  (1392, .aload_n 0, 1, 0, [], [], []),
  (1393, .iload 4, 2, 4, [], [], []),
  (1395, .iconst 1, 1, 0, [], [], []),
  (1396, .iadd, 1, 0, [], [], []),
  (1397, .iaload, 1, 0, [], [], []),
  (1398, .aload_n 0, 1, 0, [], [], []),
  (1399, .iload 4, 2, 4, [], [], []),
  (1401, .iconst 2, 1, 0, [], [], []),
  (1402, .iadd, 1, 0, [], [], []),
  (1403, .iaload, 1, 0, [], [], []),
  (1404, .invokevirtual 148, 3, 245, [1, 2], [10], []),
  (1407, .if_icmp .eq 539, 3, 1946, [], [], []),
  (1410, .iconst 0, 1, 0, [], [], []),
  (1411, .ireturn, 1, 0, [], [], []),
  (1412, .aload_n 1, 1, 1, [], [], []),
  (1413, .aload_n 0, 1, 0, [], [], []),
  (1414, .iload 4, 2, 4, [], [], []),
  (1416, .iconst 1, 1, 0, [], [], []),
  (1417, .iadd, 1, 0, [], [], []),
  (1418, .iaload, 1, 0, [], [], []),
  (1419, .aload_n 0, 1, 0, [], [], []),
  (1420, .iload 4, 2, 4, [], [], []),
  (1422, .iconst 2, 1, 0, [], [], []),
  (1423, .iadd, 1, 0, [], [], []),
  (1424, .iaload, 1, 0, [], [], []),
  (1425, .aload_n 0, 1, 0, [], [], []),
  (1426, .iload 4, 2, 4, [], [], []),
  (1428, .iconst 3, 1, 0, [], [], []),
  (1429, .iadd, 1, 0, [], [], []),
  (1430, .iaload, 1, 0, [], [], []),
  (1431, .invokevirtual 149, 3, 130, [1, 3], [9], []),
  (1434, .aload_n 2, 1, 2, [], [], []),
  (1435, .aload_n 0, 1, 0, [], [], []),
  (1436, .iload 4, 2, 4, [], [], []),
  (1438, .iconst 1, 1, 0, [], [], []),
  (1439, .iadd, 1, 0, [], [], []),
  (1440, .iaload, 1, 0, [], [], []),
  (1441, .aload_n 0, 1, 0, [], [], []),
  (1442, .iload 4, 2, 4, [], [], []),
  (1444, .iconst 2, 1, 0, [], [], []),
  (1445, .iadd, 1, 0, [], [], []),
  (1446, .iaload, 1, 0, [], [], []),
  (1447, .aload_n 0, 1, 0, [], [], []),
  (1448, .iload 4, 2, 4, [], [], []),
  (1450, .iconst 3, 1, 0, [], [], []),
  (1451, .iadd, 1, 0, [], [], []),
  (1452, .iaload, 1, 0, [], [], []),
  (1453, .invokevirtual 152, 3, 246, [1, 3], [10], []),
  (1456, .if_icmp .eq 490, 3, 1946, [], [], []),
  (1459, .iconst 0, 1, 0, [], [], []),
  (1460, .ireturn, 1, 0, [], [], []),
  (1461, .aload_n 1, 1, 1, [], [], []),
  (1462, .invokevirtual 153, 3, 131, [1, 0], [9], []),
  (1465, .aload_n 2, 1, 2, [], [], []),
  (1466, .invokevirtual 156, 3, 223, [1, 0], [10], []),
  (1469, .if_icmp .eq 477, 3, 1946, [], [], []),
  (1472, .iconst 0, 1, 0, [], [], []),
  (1473, .ireturn, 1, 0, [], [], []),
  (1474, .aload_n 1, 1, 1, [], [], []),
  (1475, .aload_n 0, 1, 0, [], [], []),
  (1476, .iload 4, 2, 4, [], [], []),
  (1478, .iconst 1, 1, 0, [], [], []),
  (1479, .iadd, 1, 0, [], [], []),
  (1480, .iaload, 1, 0, [], [], []),
  (1481, .invokevirtual 157, 3, 132, [1, 1], [9], []),
  (1484, .aload_n 2, 1, 2, [], [], []),
  (1485, .aload_n 0, 1, 0, [], [], []),
  (1486, .iload 4, 2, 4, [], [], []),
  (1488, .iconst 1, 1, 0, [], [], []),
  (1489, .iadd, 1, 0, [], [], []),
  (1490, .iaload, 1, 0, [], [], []),
  (1491, .invokevirtual 160, 3, 224, [1, 1], [10], []),
  (1494, .if_icmp .eq 452, 3, 1946, [], [], []),
  (1497, .iconst 0, 1, 0, [], [], []),
  (1498, .ireturn, 1, 0, [], [], []),
  (1499, .aload_n 1, 1, 1, [], [], []),
  (1500, .aload_n 0, 1, 0, [], [], []),
  (1501, .iload 4, 2, 4, [], [], []),
  (1503, .iconst 1, 1, 0, [], [], []),
  (1504, .iadd, 1, 0, [], [], []),
  (1505, .iaload, 1, 0, [], [], []),
  (1506, .aload_n 0, 1, 0, [], [], []),
  (1507, .iload 4, 2, 4, [], [], []),
  (1509, .iconst 2, 1, 0, [], [], []),
  (1510, .iadd, 1, 0, [], [], []),
  (1511, .iaload, 1, 0, [], [], []),
  (1512, .invokevirtual 161, 3, 133, [1, 2], [9], []),
  (1515, .aload_n 2, 1, 2, [], [], []),
  (1516, .aload_n 0, 1, 0, [], [], []),
  (1517, .iload 4, 2, 4, [], [], []),
  (1519, .iconst 1, 1, 0, [], [], []),
  (1520, .iadd, 1, 0, [], [], []),
  (1521, .iaload, 1, 0, [], [], []),
  (1522, .aload_n 0, 1, 0, [], [], []),
  (1523, .iload 4, 2, 4, [], [], []),
  (1525, .iconst 2, 1, 0, [], [], []),
  (1526, .iadd, 1, 0, [], [], []),
  (1527, .iaload, 1, 0, [], [], []),
  (1528, .invokevirtual 164, 3, 225, [1, 2], [10], []),
  (1531, .if_icmp .eq 415, 3, 1946, [], [], []),
  (1534, .iconst 0, 1, 0, [], [], []),
  (1535, .ireturn, 1, 0, [], [], []),
  (1536, .aload_n 1, 1, 1, [], [], []),
  (1537, .aload_n 0, 1, 0, [], [], []),
  (1538, .iload 4, 2, 4, [], [], []),
  (1540, .iconst 1, 1, 0, [], [], []),
  (1541, .iadd, 1, 0, [], [], []),
  (1542, .iaload, 1, 0, [], [], []),
  (1543, .aload_n 0, 1, 0, [], [], []),
  (1544, .iload 4, 2, 4, [], [], []),
  (1546, .iconst 2, 1, 0, [], [], []),
  (1547, .iadd, 1, 0, [], [], []),
  (1548, .iaload, 1, 0, [], [], []),
  (1549, .invokevirtual 165, 3, 135, [1, 2], [9], []),
  (1552, .aload_n 2, 1, 2, [], [], []),
  (1553, .aload_n 0, 1, 0, [], [], []),
  (1554, .iload 4, 2, 4, [], [], []),
  (1556, .iconst 1, 1, 0, [], [], []),
  (1557, .iadd, 1, 0, [], [], []),
  (1558, .iaload, 1, 0, [], [], []),
  (1559, .aload_n 0, 1, 0, [], [], []),
  (1560, .iload 4, 2, 4, [], [], []),
  (1562, .iconst 2, 1, 0, [], [], []),
  (1563, .iadd, 1, 0, [], [], []),
  (1564, .iaload, 1, 0, [], [], []),
  (1565, .invokevirtual 168, 3, 226, [1, 2], [10], []),
  (1568, .if_icmp .eq 378, 3, 1946, [], [], []),
  (1571, .iconst 0, 1, 0, [], [], []),
  (1572, .ireturn, 1, 0, [], [], []),
  (1573, .aload_n 1, 1, 1, [], [], []),
  (1574, .aload_n 0, 1, 0, [], [], []),
  (1575, .iload 4, 2, 4, [], [], []),
  (1577, .iconst 1, 1, 0, [], [], []),
  (1578, .iadd, 1, 0, [], [], []),
  (1579, .iaload, 1, 0, [], [], []),
  (1580, .aload_n 0, 1, 0, [], [], []),
  (1581, .iload 4, 2, 4, [], [], []),
  (1583, .iconst 2, 1, 0, [], [], []),
  (1584, .iadd, 1, 0, [], [], []),
  (1585, .iaload, 1, 0, [], [], []),
  (1586, .aload_n 0, 1, 0, [], [], []),
  (1587, .iload 4, 2, 4, [], [], []),
  (1589, .iconst 3, 1, 0, [], [], []),
  (1590, .iadd, 1, 0, [], [], []),
  (1591, .iaload, 1, 0, [], [], []),
  (1592, .invokevirtual 169, 3, 136, [1, 3], [9], []),
  (1595, .aload_n 2, 1, 2, [], [], []),
  (1596, .aload_n 0, 1, 0, [], [], []),
  (1597, .iload 4, 2, 4, [], [], []),
  (1599, .iconst 1, 1, 0, [], [], []),
  (1600, .iadd, 1, 0, [], [], []),
  (1601, .iaload, 1, 0, [], [], []),
  (1602, .aload_n 0, 1, 0, [], [], []),
  (1603, .iload 4, 2, 4, [], [], []),
  (1605, .iconst 2, 1, 0, [], [], []),
  (1606, .iadd, 1, 0, [], [], []),
  (1607, .iaload, 1, 0, [], [], []),
  (1608, .aload_n 0, 1, 0, [], [], []),
  (1609, .iload 4, 2, 4, [], [], []),
  (1611, .iconst 3, 1, 0, [], [], []),
  (1612, .iadd, 1, 0, [], [], []),
  (1613, .iaload, 1, 0, [], [], []),
  (1614, .invokevirtual 172, 3, 227, [1, 3], [10], []),
  (1617, .if_icmp .eq 329, 3, 1946, [], [], []),
  (1620, .iconst 0, 1, 0, [], [], []),
  (1621, .ireturn, 1, 0, [], [], []),
  (1622, .aload_n 1, 1, 1, [], [], []),
  (1623, .aload_n 0, 1, 0, [], [], []),
  (1624, .iload 4, 2, 4, [], [], []),
  (1626, .iconst 1, 1, 0, [], [], []),
  (1627, .iadd, 1, 0, [], [], []),
  (1628, .iaload, 1, 0, [], [], []),
  (1629, .aload_n 0, 1, 0, [], [], []),
  (1630, .iload 4, 2, 4, [], [], []),
  (1632, .iconst 2, 1, 0, [], [], []),
  (1633, .iadd, 1, 0, [], [], []),
  (1634, .iaload, 1, 0, [], [], []),
  (1635, .invokevirtual 173, 3, 137, [1, 2], [9], []),
  (1638, .aload_n 2, 1, 2, [], [], []),
  (1639, .aload_n 0, 1, 0, [], [], []),
  (1640, .iload 4, 2, 4, [], [], []),
  (1642, .iconst 1, 1, 0, [], [], []),
  (1643, .iadd, 1, 0, [], [], []),
  (1644, .iaload, 1, 0, [], [], []),
  (1645, .aload_n 0, 1, 0, [], [], []),
  (1646, .iload 4, 2, 4, [], [], []),
  (1648, .iconst 2, 1, 0, [], [], []),
  (1649, .iadd, 1, 0, [], [], []),
  (1650, .iaload, 1, 0, [], [], []),
  (1651, .invokevirtual 176, 3, 229, [1, 2], [10], []),
  (1654, .if_icmp .eq 292, 3, 1946, [], [], []),
  (1657, .iconst 0, 1, 0, [], [], []),
  (1658, .ireturn, 1, 0, [], [], []),
  (1659, .aload_n 1, 1, 1, [], [], []),
  (1660, .aload_n 0, 1, 0, [], [], []),
  (1661, .iload 4, 2, 4, [], [], []),
  (1663, .iconst 1, 1, 0, [], [], []),
  (1664, .iadd, 1, 0, [], [], []),
  (1665, .iaload, 1, 0, [], [], []),
  (1666, .aload_n 0, 1, 0, [], [], []),
  (1667, .iload 4, 2, 4, [], [], []),
  (1669, .iconst 2, 1, 0, [], [], []),
  (1670, .iadd, 1, 0, [], [], []),
  (1671, .iaload, 1, 0, [], [], []),
  (1672, .invokevirtual 177, 3, 138, [1, 2], [9], []),
  (1675, .aload_n 2, 1, 2, [], [], []),
  (1676, .aload_n 0, 1, 0, [], [], []),
  (1677, .iload 4, 2, 4, [], [], []),
  (1679, .iconst 1, 1, 0, [], [], []),
  (1680, .iadd, 1, 0, [], [], []),
  (1681, .iaload, 1, 0, [], [], []),
  (1682, .aload_n 0, 1, 0, [], [], []),
  (1683, .iload 4, 2, 4, [], [], []),
  (1685, .iconst 2, 1, 0, [], [], []),
  (1686, .iadd, 1, 0, [], [], []),
  (1687, .iaload, 1, 0, [], [], []),
  (1688, .invokevirtual 180, 3, 247, [1, 2], [10], []),
  (1691, .if_icmp .eq 255, 3, 1946, [], [], []),
  (1694, .iconst 0, 1, 0, [], [], []),
  (1695, .ireturn, 1, 0, [], [], []),
  (1696, .aload_n 1, 1, 1, [], [], []),
  (1697, .aload_n 0, 1, 0, [], [], []),
  (1698, .iload 4, 2, 4, [], [], []),
  (1700, .iconst 1, 1, 0, [], [], []),
  (1701, .iadd, 1, 0, [], [], []),
  (1702, .iaload, 1, 0, [], [], []),
  (1703, .aload_n 0, 1, 0, [], [], []),
  (1704, .iload 4, 2, 4, [], [], []),
  (1706, .iconst 2, 1, 0, [], [], []),
  (1707, .iadd, 1, 0, [], [], []),
  (1708, .iaload, 1, 0, [], [], []),
  (1709, .invokevirtual 181, 3, 139, [1, 2], [9], []),
  (1712, .aload_n 2, 1, 2, [], [], []),
  (1713, .aload_n 0, 1, 0, [], [], []),
  (1714, .iload 4, 2, 4, [], [], []),
  (1716, .iconst 1, 1, 0, [], [], []),
  (1717, .iadd, 1, 0, [], [], []),
  (1718, .iaload, 1, 0, [], [], []),
  (1719, .aload_n 0, 1, 0, [], [], []),
  (1720, .iload 4, 2, 4, [], [], []),
  (1722, .iconst 2, 1, 0, [], [], []),
  (1723, .iadd, 1, 0, [], [], []),
  (1724, .iaload, 1, 0, [], [], []),
  (1725, .invokevirtual 184, 3, 248, [1, 2], [10], []),
  (1728, .if_icmp .eq 218, 3, 1946, [], [], []),
  (1731, .iconst 0, 1, 0, [], [], []),
  (1732, .ireturn, 1, 0, [], [], []),
  (1733, .aload_n 1, 1, 1, [], [], []),
  (1734, .invokevirtual 185, 3, 140, [1, 0], [9], []),
  (1737, .aload_n 2, 1, 2, [], [], []),
  (1738, .invokevirtual 188, 3, 249, [1, 0], [10], []),
  (1741, .if_icmp .eq 205, 3, 1946, [], [], []),
  (1744, .iconst 0, 1, 0, [], [], []),
  (1745, .ireturn, 1, 0, [], [], []),
  (1746, .aload_n 1, 1, 1, [], [], []),
  (1747, .aload_n 0, 1, 0, [], [], []),
  (1748, .iload 4, 2, 4, [], [], []),
  (1750, .iconst 1, 1, 0, [], [], []),
  (1751, .iadd, 1, 0, [], [], []),
  (1752, .iaload, 1, 0, [], [], []),
  (1753, .aload_n 0, 1, 0, [], [], []),
  (1754, .iload 4, 2, 4, [], [], []),
  (1756, .iconst 2, 1, 0, [], [], []),
  (1757, .iadd, 1, 0, [], [], []),
  (1758, .iaload, 1, 0, [], [], []),
  (1759, .invokevirtual 189, 3, 141, [1, 2], [9], []),
  (1762, .aload_n 2, 1, 2, [], [], []),
  (1763, .aload_n 0, 1, 0, [], [], []),
  (1764, .iload 4, 2, 4, [], [], []),
  (1766, .iconst 1, 1, 0, [], [], []),
  (1767, .iadd, 1, 0, [], [], []),
  (1768, .iaload, 1, 0, [], [], []),
  (1769, .aload_n 0, 1, 0, [], [], []),
  (1770, .iload 4, 2, 4, [], [], []),
  (1772, .iconst 2, 1, 0, [], [], []),
  (1773, .iadd, 1, 0, [], [], []),
  (1774, .iaload, 1, 0, [], [], []),
  (1775, .invokevirtual 192, 3, 253, [1, 2], [10], []),
  (1778, .if_icmp .eq 168, 3, 1946, [], [], []),
  (1781, .iconst 0, 1, 0, [], [], []),
  (1782, .ireturn, 1, 0, [], [], []),
  (1783, .aload_n 1, 1, 1, [], [], []),
  (1784, .aload_n 0, 1, 0, [], [], []),
  (1785, .iload 4, 2, 4, [], [], []),
  (1787, .iconst 1, 1, 0, [], [], []),
  (1788, .iadd, 1, 0, [], [], []),
  (1789, .iaload, 1, 0, [], [], []),
  (1790, .invokevirtual 193, 3, 142, [1, 1], [9], []),
  (1793, .aload_n 2, 1, 2, [], [], []),
  (1794, .aload_n 0, 1, 0, [], [], []),
  (1795, .iload 4, 2, 4, [], [], []),
  (1797, .iconst 1, 1, 0, [], [], []),
  (1798, .iadd, 1, 0, [], [], []),
  (1799, .iaload, 1, 0, [], [], []),
  (1800, .invokevirtual 196, 3, 260, [1, 1], [10], []),
  (1803, .if_icmp .eq 143, 3, 1946, [], [], []),
  (1806, .iconst 0, 1, 0, [], [], []),
  (1807, .ireturn, 1, 0, [], [], []),
  (1808, .aload_n 1, 1, 1, [], [], []),
  (1809, .aload_n 0, 1, 0, [], [], []),
  (1810, .iload 4, 2, 4, [], [], []),
  (1812, .iconst 1, 1, 0, [], [], []),
  (1813, .iadd, 1, 0, [], [], []),
  (1814, .iaload, 1, 0, [], [], []),
  (1815, .invokevirtual 197, 3, 143, [1, 1], [9], []),
  (1818, .aload_n 2, 1, 2, [], [], []),
  (1819, .aload_n 0, 1, 0, [], [], []),
  (1820, .iload 4, 2, 4, [], [], []),
  (1822, .iconst 1, 1, 0, [], [], []),
  (1823, .iadd, 1, 0, [], [], []),
  (1824, .iaload, 1, 0, [], [], []),
  (1825, .invokevirtual 200, 3, 262, [1, 1], [10], []),
  (1828, .if_icmp .eq 118, 3, 1946, [], [], []),
  (1831, .iconst 0, 1, 0, [], [], []),
  (1832, .ireturn, 1, 0, [], [], []),
  (1833, .aload_n 1, 1, 1, [], [], []),
  (1834, .invokevirtual 201, 3, 144, [1, 0], [9], []),
  (1837, .aload_n 2, 1, 2, [], [], []),
  (1838, .invokevirtual 204, 3, 273, [1, 0], [10], []),
  (1841, .if_icmp .eq 105, 3, 1946, [], [], []),
  (1844, .iconst 0, 1, 0, [], [], []),
  (1845, .ireturn, 1, 0, [], [], []),
  (1846, .aload_n 1, 1, 1, [], [], []),
  (1847, .aload_n 0, 1, 0, [], [], []),
  (1848, .iload 4, 2, 4, [], [], []),
  (1850, .iconst 1, 1, 0, [], [], []),
  (1851, .iadd, 1, 0, [], [], []),
  (1852, .iaload, 1, 0, [], [], []),
  (1853, .invokevirtual 205, 3, 145, [1, 1], [9], []),
  (1856, .aload_n 2, 1, 2, [], [], []),
  (1857, .aload_n 0, 1, 0, [], [], []),
  (1858, .iload 4, 2, 4, [], [], []),
  (1860, .iconst 1, 1, 0, [], [], []),
  (1861, .iadd, 1, 0, [], [], []),
  (1862, .iaload, 1, 0, [], [], []),
  (1863, .invokevirtual 208, 3, 275, [1, 1], [10], []),
  (1866, .if_icmp .eq 80, 3, 1946, [], [], []),
  (1869, .iconst 0, 1, 0, [], [], []),
  (1870, .ireturn, 1, 0, [], [], []),
  (1871, .aload_n 1, 1, 1, [], [], []),
  (1872, .aload_n 0, 1, 0, [], [], []),
  (1873, .iload 4, 2, 4, [], [], []),
  (1875, .iconst 1, 1, 0, [], [], []),
  (1876, .iadd, 1, 0, [], [], []),
  (1877, .iaload, 1, 0, [], [], []),
  (1878, .invokevirtual 209, 3, 146, [4, 1], [9], []),
  (1881, .aload_n 2, 1, 2, [], [], []),
  (1882, .aload_n 0, 1, 0, [], [], []),
  (1883, .iload 4, 2, 4, [], [], []),
  (1885, .iconst 1, 1, 0, [], [], []),
  (1886, .iadd, 1, 0, [], [], []),
  (1887, .iaload, 1, 0, [], [], []),
  (1888, .invokevirtual 212, 3, 276, [4, 1], [10], []),
  (1891, .if_icmp .eq 55, 3, 1946, [], [], []),
  (1894, .iconst 0, 1, 0, [], [], []),
  (1895, .ireturn, 1, 0, [], [], []),
  (1896, .aload_n 1, 1, 1, [], [], []),
  (1897, .aload_n 0, 1, 0, [], [], []),
  (1898, .iload 4, 2, 4, [], [], []),
  (1900, .iconst 1, 1, 0, [], [], []),
  (1901, .iadd, 1, 0, [], [], []),
  (1902, .iaload, 1, 0, [], [], []),
  (1903, .invokevirtual 213, 3, 147, [4, 1], [9], []),
  (1906, .aload_n 2, 1, 2, [], [], []),
  (1907, .aload_n 0, 1, 0, [], [], []),
  (1908, .iload 4, 2, 4, [], [], []),
  (1910, .iconst 1, 1, 0, [], [], []),
  (1911, .iadd, 1, 0, [], [], []),
  (1912, .iaload, 1, 0, [], [], []),
  (1913, .invokevirtual 216, 3, 277, [4, 1], [10], []),
  (1916, .if_icmp .eq 30, 3, 1946, [], [], []),
  (1919, .iconst 0, 1, 0, [], [], []),
  (1920, .ireturn, 1, 0, [], [], []),
  (1921, .aload_n 1, 1, 1, [], [], []),
  (1922, .aload_n 0, 1, 0, [], [], []),
  (1923, .iload 4, 2, 4, [], [], []),
  (1925, .iconst 1, 1, 0, [], [], []),
  (1926, .iadd, 1, 0, [], [], []),
  (1927, .iaload, 1, 0, [], [], []),
  (1928, .invokevirtual 217, 3, 148, [1, 1], [9], []),
  (1931, .aload_n 2, 1, 2, [], [], []),
  (1932, .aload_n 0, 1, 0, [], [], []),
  (1933, .iload 4, 2, 4, [], [], []),
  (1935, .iconst 1, 1, 0, [], [], []),
  (1936, .iadd, 1, 0, [], [], []),
  (1937, .iaload, 1, 0, [], [], []),
  (1938, .invokevirtual 220, 3, 278, [1, 1], [10], []),
  (1941, .if_icmp .eq 5, 3, 1946, [], [], []),
  (1944, .iconst 0, 1, 0, [], [], []),
  (1945, .ireturn, 1, 0, [], [], []),
  (1946, .iinc 4 6, 3, 4, [], [], []),
  (1949, .goto (-1926), 3, 23, [], [], []),
  (1952, .iconst 1, 1, 0, [], [], []),
  (1953, .ireturn, 1, 0, [], [], [])], [(23, [true, true, true, true, true, false, false]), (240, [true, true, true, true, true, false, false]), (313, [true, true, true, true, true, false, false]), (338, [true, true, true, true, true, false, false]), (351, [true, true, true, true, true, false, false]), (364, [true, true, true, true, true, false, false]), (389, [true, true, true, true, true, false, false]), (426, [true, true, true, true, true, false, false]), (475, [true, true, true, true, true, false, false]), (524, [true, true, true, true, true, false, false]), (573, [true, true, true, true, true, false, false]), (598, [true, true, true, true, true, false, false]), (635, [true, true, true, true, true, false, false]), (703, [true, true, true, true, true, false, false]), (728, [true, true, true, true, true, false, false]), (777, [true, true, true, true, true, false, false]), (814, [true, true, true, true, true, false, false]), (894, [true, true, true, true, true, false, false]), (950, [true, true, true, true, true, false, false]), (1018, [true, true, true, true, true, false, false]), (1055, [true, true, true, true, true, false, false]), (1092, [true, true, true, true, true, false, false]), (1117, [true, true, true, true, true, false, false]), (1142, [true, true, true, true, true, false, false]), (1191, [true, true, true, true, true, false, false]), (1240, [true, true, true, true, true, false, false]), (1289, [true, true, true, true, true, false, false]), (1338, [true, true, true, true, true, false, false]), (1375, [true, true, true, true, true, false, false]), (1412, [true, true, true, true, true, false, false]), (1461, [true, true, true, true, true, false, false]), (1474, [true, true, true, true, true, false, false]), (1499, [true, true, true, true, true, false, false]), (1536, [true, true, true, true, true, false, false]), (1573, [true, true, true, true, true, false, false]), (1622, [true, true, true, true, true, false, false]), (1659, [true, true, true, true, true, false, false]), (1696, [true, true, true, true, true, false, false]), (1733, [true, true, true, true, true, false, false]), (1746, [true, true, true, true, true, false, false]), (1783, [true, true, true, true, true, false, false]), (1808, [true, true, true, true, true, false, false]), (1833, [true, true, true, true, true, false, false]), (1846, [true, true, true, true, true, false, false]), (1871, [true, true, true, true, true, false, false]), (1896, [true, true, true, true, true, false, false]), (1921, [true, true, true, true, true, false, false]), (1946, [true, true, true, true, true, false, false])])
end
section
set_option maxRecDepth 100000 in
theorem eX0_init_0 (C : sC) (w : sW) (a0 : Int) : sg C mX0_init 2000 0 [some (rV a0)] [] w =
  if kd w a0 = 1 then
  if 0 ≤ (40 : Int) ∧ (40 : Int) ≤ 100000 then
  wl (al w 27 40 (Int.toNat 40)) (fun w1 =>
  if kd w1 a0 = 1 then
  wl (sv w1 a0 0 (nx w)) (fun w2 =>
  if 0 ≤ (40 : Int) ∧ (40 : Int) ≤ 100000 then
  wl (al w2 20 40 (Int.toNat 40)) (fun w3 =>
  if kd w3 a0 = 1 then
  wl (sv w3 a0 1 (nx w2)) (fun w4 =>
  if 0 ≤ (40 : Int) ∧ (40 : Int) ≤ 100000 then
  wl (al w4 20 40 (Int.toNat 40)) (fun w5 =>
  if kd w5 a0 = 1 then
  wl (sv w5 a0 2 (nx w4)) (fun w6 =>
  if 0 ≤ (40 : Int) ∧ (40 : Int) ≤ 100000 then
  wl (al w6 20 40 (Int.toNat 40)) (fun w7 =>
  if kd w7 a0 = 1 then
  wl (sv w7 a0 3 (nx w6)) (fun w8 =>
  some (.inr (none, w8))) else none) else none) else none) else none) else none) else none) else none) else none else none := by
  rfl
set_option maxRecDepth 100000 in
theorem eX0_readLines_0 (C : sC) (w : sW) (a0 a1 a2 : Int) : sg C mX0_readLines 2000 0 [some (rV a0), some (rV a1), some (rV a2), none] [] w =
  if kd w a0 = 1 then
  wl (sv w a0 4 0) (fun w1 =>
  some (.inl (7, [some (rV a0), some (rV a1), some (rV a2), some (iV 0)], [], w1))) else none := by
  rfl
set_option maxRecDepth 100000 in
theorem eX0_readLines_7 (C : sC) (w : sW) (a0 a1 a2 a3 : Int) : sg C mX0_readLines 2000 7 [some (rV a0), some (rV a1), some (rV a2), some (iV a3)] [] w =
  if 40 < a3 then
   (some (.inr (none, w)))
  else
  if kd w a1 = 4 then
  bI (C 19 w [rV a1]) (fun x2 w1 =>
  if x2 = 0 then
   (some (.inr (none, w1)))
  else
  if kd w1 a1 = 4 then
  if (gv w1 a1 9) = 0 then
   (if kd w1 a1 = 4 then
   bN (C 20 w1 [rV a1, iV 1]) (fun w3 =>
   some (.inl (7, [some (rV a0), some (rV a1), some (rV a2), some (iV (w32 (a3 + 1)))], [], w3))) else none)
  else
  if kd w1 a1 = 4 then
  if kd w1 (gv w1 a1 9) = 30 then
  if (gv w1 (gv w1 a1 9) 1) = 1 then
   (if kd w1 a0 = 1 then
   if (gv w1 a0 4) < 40 then
    (if kd w1 a0 = 1 then
    bN (C 2 w1 [rV a0, rV a1, rV a2]) (fun w4 =>
    if kd w4 a1 = 4 then
    bN (C 23 w4 [rV a1, iV 59]) (fun w5 =>
    if kd w5 a0 = 1 then
    if kd w5 a0 = 1 then
    wl (sv w5 a0 4 (w32 ((gv w5 a0 4) + 1))) (fun w6 =>
    some (.inl (7, [some (rV a0), some (rV a1), some (rV a2), some (iV (w32 (a3 + 1)))], [], w6))) else none else none) else none) else none)
   else
   if kd w1 a1 = 4 then
   bN (C 20 w1 [rV a1, iV 4]) (fun w7 =>
   some (.inl (7, [some (rV a0), some (rV a1), some (rV a2), some (iV (w32 (a3 + 1)))], [], w7))) else none else none)
  else
  if kd w1 a1 = 4 then
  bN (C 20 w1 [rV a1, iV 1]) (fun w8 =>
  some (.inl (7, [some (rV a0), some (rV a1), some (rV a2), some (iV (w32 (a3 + 1)))], [], w8))) else none else none else none else none) else none := by
  rfl
set_option maxRecDepth 100000 in
theorem eX0_readLine_0 (C : sC) (w : sW) (a0 a1 a2 : Int) : sg C mX0_readLine 2000 0 [some (rV a0), some (rV a1), some (rV a2), none, none, none, none] [] w =
  if kd w a1 = 4 then
  if kd w a1 = 4 then
  bN (C 16 w [rV a1]) (fun w1 =>
  if (gv w a1 9) ≤ 23 ∧ (10 : Int) ≤ 23 then
  (if (gv w a1 9) = (10 : Int) then
   (if kd w1 a1 = 4 then
   bI (C 25 w1 [rV a1, iV 0, iV 999]) (fun x3 w2 =>
   if (gv w a1 9) ≤ 23 ∧ (10 : Int) ≤ 23 then
   (if (gv w a1 9) = (10 : Int) then
    (if kd w2 a1 = 4 then
    bI (C 25 w2 [rV a1, iV 0, iV 7]) (fun x5 w4 =>
    some (.inl (127, [some (rV a0), none, none, some (rV (gv w a1 9)), some (iV x3), some (iV x5), some (iV 0)], [], w4))) else none)
   else
   if kd w2 a1 = 4 then
   bI (C 25 w2 [rV a1, iV 1, iV 600]) (fun x7 w6 =>
   some (.inl (127, [some (rV a0), none, none, some (rV (gv w a1 9)), some (iV x3), some (iV x7), some (iV 0)], [], w6))) else none) else none) else none)
  else
  if (gv w a1 9) ≤ 23 ∧ (11 : Int) ≤ 23 then
  (if (gv w a1 9) = (11 : Int) then
   (if kd w1 a1 = 4 then
   bI (C 25 w1 [rV a1, iV 0, iV 999]) (fun x9 w8 =>
   if (gv w a1 9) ≤ 23 ∧ (10 : Int) ≤ 23 then
   (if (gv w a1 9) = (10 : Int) then
    (if kd w8 a1 = 4 then
    bI (C 25 w8 [rV a1, iV 0, iV 7]) (fun x11 w10 =>
    some (.inl (127, [some (rV a0), none, none, some (rV (gv w a1 9)), some (iV x9), some (iV x11), some (iV 0)], [], w10))) else none)
   else
   if kd w8 a1 = 4 then
   bI (C 25 w8 [rV a1, iV 1, iV 600]) (fun x13 w12 =>
   some (.inl (127, [some (rV a0), none, none, some (rV (gv w a1 9)), some (iV x9), some (iV x13), some (iV 0)], [], w12))) else none) else none) else none)
  else
  if (gv w a1 9) ≤ 23 ∧ (8 : Int) ≤ 23 then
  (if (gv w a1 9) = (8 : Int) then
   (if kd w1 a1 = 4 then
   bI (C 26 w1 [rV a1, rV a2, iV (-1)]) (fun x15 w14 =>
   if kd w14 a1 = 4 then
   bI (C 26 w14 [rV a1, rV a2, iV x15]) (fun x17 w16 =>
   some (.inl (127, [some (rV a0), none, none, some (rV (gv w a1 9)), some (iV x15), some (iV x17), some (iV 0)], [], w16))) else none) else none)
  else
  if kd w1 a1 = 4 then
  bI (C 26 w1 [rV a1, rV a2, iV (-1)]) (fun x19 w18 =>
  if kd w18 a1 = 4 then
  bI (C 25 w18 [rV a1, iV 0, iV 999]) (fun x21 w20 =>
  bI (C 3 w20 [rV a1, rV a2, rV (gv w a1 9), iV x19]) (fun x23 w22 =>
  some (.inl (127, [some (rV a0), none, none, some (rV (gv w a1 9)), some (iV x19), some (iV x21), some (iV x23)], [], w22)))) else none) else none) else none) else none) else none) else none else none := by
  rfl
set_option maxRecDepth 100000 in
theorem eX0_readLine_127 (C : sC) (w : sW) (a0 a3 a4 a5 a6 : Int) : sg C mX0_readLine 2000 127 [some (rV a0), none, none, some (rV a3), some (iV a4), some (iV a5), some (iV a6)] [] w =
  if kd w a0 = 1 then
  if kd w a0 = 1 then
  if ((kd w (gv w a0 0) = 24 ∧ kd w a3 = 5) ∨ (kd w (gv w a0 0) = 25 ∧ kd w a3 = 8) ∨ (kd w (gv w a0 0) = 26 ∧ kd w a3 = 7) ∨ (kd w (gv w a0 0) = 27 ∧ kd w a3 = 30 ∧ 32 ≤ (gv w a0 0))) ∧ 0 ≤ (gv w a0 4) ∧ (gv w a0 4) < ln w (gv w a0 0) then
  wl (sv w (gv w a0 0) (gv w a0 4) a3) (fun w1 =>
  if kd w1 a0 = 1 then
  if kd w1 a0 = 1 then
  if (kd w1 (gv w1 a0 1) = 20 ∧ 32 ≤ (gv w1 a0 1)) ∧ 0 ≤ (gv w1 a0 4) ∧ (gv w1 a0 4) < ln w1 (gv w1 a0 1) then
  wl (sv w1 (gv w1 a0 1) (gv w1 a0 4) a4) (fun w2 =>
  if kd w2 a0 = 1 then
  if kd w2 a0 = 1 then
  if (kd w2 (gv w2 a0 2) = 20 ∧ 32 ≤ (gv w2 a0 2)) ∧ 0 ≤ (gv w2 a0 4) ∧ (gv w2 a0 4) < ln w2 (gv w2 a0 2) then
  wl (sv w2 (gv w2 a0 2) (gv w2 a0 4) a5) (fun w3 =>
  if kd w3 a0 = 1 then
  if kd w3 a0 = 1 then
  if (kd w3 (gv w3 a0 3) = 20 ∧ 32 ≤ (gv w3 a0 3)) ∧ 0 ≤ (gv w3 a0 4) ∧ (gv w3 a0 4) < ln w3 (gv w3 a0 3) then
  wl (sv w3 (gv w3 a0 3) (gv w3 a0 4) a6) (fun w4 =>
  some (.inr (none, w4))) else none else none else none) else none else none else none) else none else none else none) else none else none else none := by
  rfl
set_option maxRecDepth 100000 in
theorem eX0_readThird_0 (C : sC) (w : sW) (a0 a1 a2 a3 : Int) : sg C mX0_readThird 2000 0 [some (rV a0), some (rV a1), some (rV a2), some (iV a3)] [] w =
  if a2 ≤ 23 ∧ (9 : Int) ≤ 23 then
  (if a2 = (9 : Int) then
   (if kd w a0 = 4 then
   bI (C 26 w [rV a0, rV a1, iV a3]) (fun x2 w1 =>
   some (.inr (some (iV x2), w1))) else none)
  else
  if a2 ≤ 23 ∧ (4 : Int) ≤ 23 then
  (if a2 = (4 : Int) then
   (if kd w a0 = 4 then
   bI (C 25 w [rV a0, iV 0, iV 1]) (fun x4 w3 =>
   some (.inr (some (iV x4), w3))) else none)
  else
  if a2 ≤ 23 ∧ (5 : Int) ≤ 23 then
  (if a2 = (5 : Int) then
   (if kd w a0 = 4 then
   bI (C 25 w [rV a0, iV 0, iV 1]) (fun x6 w5 =>
   some (.inr (some (iV x6), w5))) else none)
  else
  if kd w a0 = 4 then
  bI (C 25 w [rV a0, iV 1, iV 600]) (fun x8 w7 =>
  some (.inr (some (iV x8), w7))) else none) else none) else none) else none := by
  rfl
set_option maxRecDepth 100000 in
theorem eX0_liveOn_0 (C : sC) (w : sW) (a0 a1 : Int) : sg C mX0_liveOn 2000 0 [some (rV a0), some (rV a1), none, none, none] [] w =
  if kd w a0 = 1 then
  wl (sv w a0 5 0) (fun w1 =>
  some (.inl (7, [some (rV a0), some (rV a1), some (iV 0), none, none], [], w1))) else none := by
  rfl
set_option maxRecDepth 100000 in
theorem eX0_liveOn_7 (C : sC) (w : sW) (a0 a1 a2 : Int) : sg C mX0_liveOn 2000 7 [some (rV a0), some (rV a1), some (iV a2), none, none] [] w =
  if kd w a0 = 1 then
  if a2 < (gv w a0 4) then
   (if a2 < 40 then
    (if kd w a0 = 1 then
    if (24 ≤ kd w (gv w a0 0) ∧ kd w (gv w a0 0) ≤ 27) ∧ 0 ≤ a2 ∧ a2 < ln w (gv w a0 0) then
    if (gv w (gv w a0 0) a2) = 0 then
     (some (.inr (some (iV a2), w)))
    else
    if kd w a0 = 1 then
    if kd w (gv w a0 1) = 20 ∧ 0 ≤ a2 ∧ a2 < ln w (gv w a0 1) then
    if kd w a0 = 1 then
    if kd w (gv w a0 2) = 20 ∧ 0 ≤ a2 ∧ a2 < ln w (gv w a0 2) then
    if kd w a0 = 1 then
    if kd w (gv w a0 3) = 20 ∧ 0 ≤ a2 ∧ a2 < ln w (gv w a0 3) then
    if kd w a1 = 8 then
    bI (C 86 w [rV a1, rV (gv w (gv w a0 0) a2), iV (gv w (gv w a0 1) a2), iV (gv w (gv w a0 2) a2), iV (gv w (gv w a0 3) a2)]) (fun x2 w1 =>
    if x2 = 0 then
     (if kd w1 a0 = 1 then
     if kd w1 (gv w1 a0 1) = 20 ∧ 0 ≤ a2 ∧ a2 < ln w1 (gv w1 a0 1) then
     if kd w1 a0 = 1 then
     if kd w1 (gv w1 a0 2) = 20 ∧ 0 ≤ a2 ∧ a2 < ln w1 (gv w1 a0 2) then
     if kd w1 a0 = 1 then
     if kd w1 (gv w1 a0 3) = 20 ∧ 0 ≤ a2 ∧ a2 < ln w1 (gv w1 a0 3) then
     if kd w1 a1 = 8 then
     bN (C 88 w1 [rV a1, rV (gv w (gv w a0 0) a2), iV (gv w1 (gv w1 a0 1) a2), iV (gv w1 (gv w1 a0 2) a2), iV (gv w1 (gv w1 a0 3) a2)]) (fun w3 =>
     some (.inl (7, [some (rV a0), some (rV a1), some (iV (w32 (a2 + 1))), none, none], [], w3))) else none else none else none else none else none else none else none)
    else
    if kd w1 (gv w (gv w a0 0) a2) = 30 then
    if kd w1 a0 = 1 then
    wl (sv w1 a0 5 (w32 ((gv w1 (gv w (gv w a0 0) a2) 2) + x2))) (fun w4 =>
    some (.inr (some (iV a2), w4))) else none else none) else none else none else none else none else none else none else none else none else none)
   else
   if kd w a0 = 1 then
   some (.inr (some (iV (gv w a0 4)), w)) else none)
  else
  if kd w a0 = 1 then
  some (.inr (some (iV (gv w a0 4)), w)) else none else none := by
  rfl
set_option maxRecDepth 100000 in
theorem eX1_init_0 (C : sC) (w : sW) (a0 a1 : Int) : sg C mX1_init 2000 0 [some (rV a0), some (iV a1)] [] w =
  if kd w a0 = 2 then
  if kd w a0 = 2 then
  wl (sv w a0 0 a1) (fun w1 =>
  some (.inr (none, w1))) else none else none := by
  rfl
set_option maxRecDepth 100000 in
theorem eX1_draw_0 (C : sC) (w : sW) (a0 a1 : Int) : sg C mX1_draw 2000 0 [some (rV a0), some (iV a1)] [] w =
  if kd w a0 = 2 then
  if kd w a0 = 2 then
  wl (sv w a0 0 (w32 ((w32 ((gv w a0 0) * 1103515245)) + 12345))) (fun w1 =>
  if a1 < 1 then
   (some (.inr (some (iV 0), w1)))
  else
  if kd w1 a0 = 2 then
  if a1 = 0 then none else
  some (.inr (some (iV (Int.tmod (f_iushr (gv w1 a0 0) 8) a1)), w1)) else none) else none else none := by
  rfl
set_option maxRecDepth 100000 in
theorem eX1_deedOn_0 (C : sC) (w : sW) (a0 a1 : Int) : sg C mX1_deedOn 2000 0 [some (rV a0), some (rV a1), none, none, none, none, none] [] w =
  if kd w a1 = 8 then
  if (gv w a1 3) = 0 then
   (some (.inr (some (iV 0), w)))
  else
  if kd w a0 = 2 then
  bI (C 6 w [rV a0, iV 8]) (fun x2 w1 =>
  if kd w1 a1 = 8 then
  if kd w1 a0 = 2 then
  bI (C 6 w1 [rV a0, iV (gv w1 a1 3)]) (fun x4 w3 =>
  if kd w3 a1 = 8 then
  bR (C 77 w3 [rV a1, iV x4]) (fun r6 w5 =>
  if r6 = 0 then
   (if kd w5 a0 = 2 then
   bI (C 6 w5 [rV a0, iV 1]) (fun x8 w7 =>
   if x2 = 3 then
    (if kd w7 a0 = 2 then
    bI (C 6 w7 [rV a0, iV 8]) (fun x10 w9 =>
    bI (C 8 w9 [rV a1, rV 6, iV x4, iV x8, iV (w32 (x10 + 1))]) (fun x12 w11 =>
    if x12 = 0 ∨ x12 = 1 then some (.inr (some (iV x12), w11)) else none)) else none)
   else if x2 = 4 then
    (if kd w7 a0 = 2 then
    bI (C 6 w7 [rV a0, iV 40]) (fun x14 w13 =>
    bI (C 8 w13 [rV a1, rV 7, iV x4, iV x8, iV (w32 (x14 + 1))]) (fun x16 w15 =>
    if x16 = 0 ∨ x16 = 1 then some (.inr (some (iV x16), w15)) else none)) else none)
   else if x2 = 5 then
    (if kd w7 a0 = 2 then
    bI (C 6 w7 [rV a0, iV 40]) (fun x18 w17 =>
    bI (C 8 w17 [rV a1, rV 7, iV x4, iV x8, iV (w32 (x18 + 1))]) (fun x20 w19 =>
    if x20 = 0 ∨ x20 = 1 then some (.inr (some (iV x20), w19)) else none)) else none)
   else if x2 = 6 then
    (if kd w7 a1 = 8 then
    if kd w7 a0 = 2 then
    bI (C 6 w7 [rV a0, iV (gv w7 a1 3)]) (fun x22 w21 =>
    if x22 = x4 then
     (some (.inr (some (iV 0), w21)))
    else
    bI (C 8 w21 [rV a1, rV 8, iV x4, iV x22, iV 0]) (fun x24 w23 =>
    if x24 = 0 then
     (some (.inr (some (iV 0), w23)))
    else
    some (.inr (some (iV 1), w23)))) else none else none)
   else if x2 = 7 then
    (if kd w7 a1 = 8 then
    if kd w7 a0 = 2 then
    bI (C 6 w7 [rV a0, iV (gv w7 a1 3)]) (fun x26 w25 =>
    if x26 = x4 then
     (some (.inr (some (iV 0), w25)))
    else
    bI (C 8 w25 [rV a1, rV 9, iV x4, iV x8, iV x26]) (fun x28 w27 =>
    if x28 = 0 then
     (some (.inr (some (iV 0), w27)))
    else
    some (.inr (some (iV 1), w27)))) else none else none)
   else if kd w7 a0 = 2 then
   bI (C 6 w7 [rV a0, iV 2]) (fun x30 w29 =>
   bI (C 8 w29 [rV a1, rV 4, iV x4, iV x8, iV x30]) (fun x32 w31 =>
   if x32 = 0 ∨ x32 = 1 then some (.inr (some (iV x32), w31)) else none)) else none) else none)
  else
  if kd w5 r6 = 5 then
  if kd w5 a0 = 2 then
  bI (C 6 w5 [rV a0, iV (w32 ((gv w5 r6 2) + 1))]) (fun x34 w33 =>
  if x2 = 3 then
   (if kd w33 a0 = 2 then
   bI (C 6 w33 [rV a0, iV 8]) (fun x36 w35 =>
   bI (C 8 w35 [rV a1, rV 6, iV x4, iV x34, iV (w32 (x36 + 1))]) (fun x38 w37 =>
   if x38 = 0 ∨ x38 = 1 then some (.inr (some (iV x38), w37)) else none)) else none)
  else if x2 = 4 then
   (if kd w33 a0 = 2 then
   bI (C 6 w33 [rV a0, iV 40]) (fun x40 w39 =>
   bI (C 8 w39 [rV a1, rV 7, iV x4, iV x34, iV (w32 (x40 + 1))]) (fun x42 w41 =>
   if x42 = 0 ∨ x42 = 1 then some (.inr (some (iV x42), w41)) else none)) else none)
  else if x2 = 5 then
   (if kd w33 a0 = 2 then
   bI (C 6 w33 [rV a0, iV 40]) (fun x44 w43 =>
   bI (C 8 w43 [rV a1, rV 7, iV x4, iV x34, iV (w32 (x44 + 1))]) (fun x46 w45 =>
   if x46 = 0 ∨ x46 = 1 then some (.inr (some (iV x46), w45)) else none)) else none)
  else if x2 = 6 then
   (if kd w33 a1 = 8 then
   if kd w33 a0 = 2 then
   bI (C 6 w33 [rV a0, iV (gv w33 a1 3)]) (fun x48 w47 =>
   if x48 = x4 then
    (some (.inr (some (iV 0), w47)))
   else
   bI (C 8 w47 [rV a1, rV 8, iV x4, iV x48, iV 0]) (fun x50 w49 =>
   if x50 = 0 then
    (some (.inr (some (iV 0), w49)))
   else
   some (.inr (some (iV 1), w49)))) else none else none)
  else if x2 = 7 then
   (if kd w33 a1 = 8 then
   if kd w33 a0 = 2 then
   bI (C 6 w33 [rV a0, iV (gv w33 a1 3)]) (fun x52 w51 =>
   if x52 = x4 then
    (some (.inr (some (iV 0), w51)))
   else
   bI (C 8 w51 [rV a1, rV 9, iV x4, iV x34, iV x52]) (fun x54 w53 =>
   if x54 = 0 then
    (some (.inr (some (iV 0), w53)))
   else
   some (.inr (some (iV 1), w53)))) else none else none)
  else if kd w33 a0 = 2 then
  bI (C 6 w33 [rV a0, iV 2]) (fun x56 w55 =>
  bI (C 8 w55 [rV a1, rV 4, iV x4, iV x34, iV x56]) (fun x58 w57 =>
  if x58 = 0 ∨ x58 = 1 then some (.inr (some (iV x58), w57)) else none)) else none) else none else none) else none) else none else none) else none else none := by
  rfl
set_option maxRecDepth 100000 in
theorem eX1_done_0 (C : sC) (w : sW) (a0 a1 a2 a3 a4 : Int) : sg C mX1_done 2000 0 [some (rV a0), some (rV a1), some (iV a2), some (iV a3), some (iV a4)] [] w =
  if kd w a0 = 8 then
  bI (C 86 w [rV a0, rV a1, iV a2, iV a3, iV a4]) (fun x2 w1 =>
  if x2 = 0 then
   (if kd w1 a0 = 8 then
   bN (C 88 w1 [rV a0, rV a1, iV a2, iV a3, iV a4]) (fun w3 =>
   some (.inr (some (iV 1), w3))) else none)
  else
  some (.inr (some (iV 0), w1))) else none := by
  rfl
set_option maxRecDepth 100000 in
theorem eX2_asBits_0 (C : sC) (w : sW) (a0 a2 a4 a5 : Int) : sg C mX2_asBits 2000 0 [some (lV a0), none, some (lV a2), none, some (iV a4), some (iV a5), none, none, none, none, none, none, none, none] [] w =
  if 0 < (cmpL a0 0) then
   (if 0 < (cmpL a2 0) then
    (some (.inl (26, [none, none, none, none, some (iV a4), some (iV a5), some (lV a0), none, some (lV a2), none, some (iV 0), some (iV 0), none, none], [], w)))
   else
   some (.inr (some (lV 0), w)))
  else
  some (.inr (some (lV 0), w)) := by
  rfl
set_option maxRecDepth 100000 in
theorem eX2_asBits_26 (C : sC) (w : sW) (a4 a5 a6 a8 a10 a11 : Int) : sg C mX2_asBits 2000 26 [none, none, none, none, some (iV a4), some (iV a5), some (lV a6), none, some (lV a8), none, some (iV a10), some (iV a11), none, none] [] w =
  if a11 < 40 then
   (if (cmpL a6 (w64 (2 * a8))) < 0 then
    (some (.inl (65, [none, none, none, none, some (iV a4), some (iV a5), some (lV a6), none, some (lV a8), none, some (iV a10), some (iV 0), none, none], [], w)))
   else
   some (.inl (26, [none, none, none, none, some (iV a4), some (iV a5), some (lV a6), none, some (lV (w64 (a8 * 2))), none, some (iV (w32 (a10 + 1))), some (iV (w32 (a11 + 1))), none, none], [], w)))
  else
  some (.inl (65, [none, none, none, none, some (iV a4), some (iV a5), some (lV a6), none, some (lV a8), none, some (iV a10), some (iV 0), none, none], [], w)) := by
  rfl
set_option maxRecDepth 100000 in
theorem eX2_asBits_65 (C : sC) (w : sW) (a4 a5 a6 a8 a10 a11 : Int) : sg C mX2_asBits 2000 65 [none, none, none, none, some (iV a4), some (iV a5), some (lV a6), none, some (lV a8), none, some (iV a10), some (iV a11), none, none] [] w =
  if a11 < 40 then
   (if (cmpL a6 a8) < 0 then
    (some (.inl (65, [none, none, none, none, some (iV a4), some (iV a5), some (lV (w64 (a6 * 2))), none, some (lV a8), none, some (iV (w32 (a10 + (-1)))), some (iV (w32 (a11 + 1))), none, none], [], w)))
   else
   some (.inl (103, [none, none, none, none, some (iV a4), some (iV a5), some (lV a6), none, some (lV a8), none, some (iV a10), some (lV 0), none, some (iV 0)], [], w)))
  else
  some (.inl (103, [none, none, none, none, some (iV a4), some (iV a5), some (lV a6), none, some (lV a8), none, some (iV a10), some (lV 0), none, some (iV 0)], [], w)) := by
  rfl
set_option maxRecDepth 100000 in
theorem eX2_asBits_103 (C : sC) (w : sW) (a4 a5 a6 a8 a10 a11 a13 : Int) : sg C mX2_asBits 2000 103 [none, none, none, none, some (iV a4), some (iV a5), some (lV a6), none, some (lV a8), none, some (iV a10), some (lV a11), none, some (iV a13)] [] w =
  if a13 < a4 then
   (if (cmpL a6 a8) < 0 then
    (some (.inl (103, [none, none, none, none, some (iV a4), some (iV a5), some (lV (w64 (a6 * 2))), none, some (lV a8), none, some (iV a10), some (lV (w64 (a11 * 2))), none, some (iV (w32 (a13 + 1)))], [], w)))
   else
   some (.inl (103, [none, none, none, none, some (iV a4), some (iV a5), some (lV (w64 ((w64 (a6 - a8)) * 2))), none, some (lV a8), none, some (iV a10), some (lV (w64 ((w64 (a11 * 2)) + 1))), none, some (iV (w32 (a13 + 1)))], [], w)))
  else
  if 0 < (cmpL a6 a8) then
   (some (.inr (some (lV (w64 ((f_lshl (w32 ((w32 (a10 + a5)) - 1)) (w32 (a4 - 1))) + (w64 (a11 + 1))))), w)))
  else
  if (cmpL a6 a8) = 0 then
   (if (cmpL (f_land a11 1) 1) = 0 then
    (some (.inr (some (lV (w64 ((f_lshl (w32 ((w32 (a10 + a5)) - 1)) (w32 (a4 - 1))) + (w64 (a11 + 1))))), w)))
   else
   some (.inr (some (lV (w64 ((f_lshl (w32 ((w32 (a10 + a5)) - 1)) (w32 (a4 - 1))) + a11))), w)))
  else
  some (.inr (some (lV (w64 ((f_lshl (w32 ((w32 (a10 + a5)) - 1)) (w32 (a4 - 1))) + a11))), w)) := by
  rfl
set_option maxRecDepth 100000 in
theorem eX3_init_0 (C : sC) (w : sW) (a0 : Int) : sg C mX3_init 2000 0 [some (rV a0)] [] w =
  if kd w a0 = 3 then
  if 0 ≤ (8 : Int) ∧ (8 : Int) ≤ 100000 then
  wl (al w 25 8 (Int.toNat 8)) (fun w1 =>
  if kd w1 a0 = 3 then
  wl (sv w1 a0 0 (nx w)) (fun w2 =>
  some (.inr (none, w2))) else none) else none else none := by
  rfl
set_option maxRecDepth 100000 in
theorem eX3_forget_0 (C : sC) (w : sW) (a0 : Int) : sg C mX3_forget 2000 0 [some (rV a0)] [] w =
  if kd w a0 = 3 then
  wl (sv w a0 2 0) (fun w1 =>
  some (.inr (none, w1))) else none := by
  rfl
set_option maxRecDepth 100000 in
theorem eX3_keep_0 (C : sC) (w : sW) (a0 a1 : Int) : sg C mX3_keep 2000 0 [some (rV a0), some (rV a1), none] [] w =
  if kd w a0 = 3 then
  if kd w a0 = 3 then
  if (8 : Int) = 0 then none else
  if kd w a0 = 3 then
  if (gv w a0 2) = 8 then
   (if kd w a0 = 3 then
   if (8 : Int) = 0 then none else
   if kd w a0 = 3 then
   wl (sv w a0 1 (Int.tmod (w32 ((gv w a0 1) + 1)) 8)) (fun w1 =>
   if kd w1 a0 = 3 then
   if (24 ≤ kd w1 (gv w1 a0 0) ∧ kd w1 (gv w1 a0 0) ≤ 27) ∧ 0 ≤ (Int.tmod (w32 ((gv w a0 1) + (gv w a0 2))) 8) ∧ (Int.tmod (w32 ((gv w a0 1) + (gv w a0 2))) 8) < ln w1 (gv w1 a0 0) then
   if (gv w1 (gv w1 a0 0) (Int.tmod (w32 ((gv w a0 1) + (gv w a0 2))) 8)) = 0 then
    (if kd w1 a0 = 3 then
    wl (al w1 8 0 6) (fun w2 =>
    if kd w2 (nx w1) = 8 then
    bN (C 75 w2 [rV (nx w1)]) (fun w3 =>
    if ((kd w3 (gv w1 a0 0) = 24 ∧ kd w3 (nx w1) = 5) ∨ (kd w3 (gv w1 a0 0) = 25 ∧ kd w3 (nx w1) = 8) ∨ (kd w3 (gv w1 a0 0) = 26 ∧ kd w3 (nx w1) = 7) ∨ (kd w3 (gv w1 a0 0) = 27 ∧ kd w3 (nx w1) = 30 ∧ 32 ≤ (gv w1 a0 0))) ∧ 0 ≤ (Int.tmod (w32 ((gv w a0 1) + (gv w a0 2))) 8) ∧ (Int.tmod (w32 ((gv w a0 1) + (gv w a0 2))) 8) < ln w3 (gv w1 a0 0) then
    wl (sv w3 (gv w1 a0 0) (Int.tmod (w32 ((gv w a0 1) + (gv w a0 2))) 8) (nx w1)) (fun w4 =>
    if kd w4 a0 = 3 then
    if (24 ≤ kd w4 (gv w4 a0 0) ∧ kd w4 (gv w4 a0 0) ≤ 27) ∧ 0 ≤ (Int.tmod (w32 ((gv w a0 1) + (gv w a0 2))) 8) ∧ (Int.tmod (w32 ((gv w a0 1) + (gv w a0 2))) 8) < ln w4 (gv w4 a0 0) then
    if kd w4 (gv w4 (gv w4 a0 0) (Int.tmod (w32 ((gv w a0 1) + (gv w a0 2))) 8)) = 8 then
    bN (C 76 w4 [rV (gv w4 (gv w4 a0 0) (Int.tmod (w32 ((gv w a0 1) + (gv w a0 2))) 8)), rV a1]) (fun w5 =>
    some (.inr (none, w5))) else none else none else none) else none) else none) else none)
   else
   if kd w1 a0 = 3 then
   if (24 ≤ kd w1 (gv w1 a0 0) ∧ kd w1 (gv w1 a0 0) ≤ 27) ∧ 0 ≤ (Int.tmod (w32 ((gv w a0 1) + (gv w a0 2))) 8) ∧ (Int.tmod (w32 ((gv w a0 1) + (gv w a0 2))) 8) < ln w1 (gv w1 a0 0) then
   if kd w1 (gv w1 (gv w1 a0 0) (Int.tmod (w32 ((gv w a0 1) + (gv w a0 2))) 8)) = 8 then
   bN (C 76 w1 [rV (gv w1 (gv w1 a0 0) (Int.tmod (w32 ((gv w a0 1) + (gv w a0 2))) 8)), rV a1]) (fun w6 =>
   some (.inr (none, w6))) else none else none else none else none else none) else none else none)
  else
  if kd w a0 = 3 then
  if kd w a0 = 3 then
  wl (sv w a0 2 (w32 ((gv w a0 2) + 1))) (fun w7 =>
  if kd w7 a0 = 3 then
  if (24 ≤ kd w7 (gv w7 a0 0) ∧ kd w7 (gv w7 a0 0) ≤ 27) ∧ 0 ≤ (Int.tmod (w32 ((gv w a0 1) + (gv w a0 2))) 8) ∧ (Int.tmod (w32 ((gv w a0 1) + (gv w a0 2))) 8) < ln w7 (gv w7 a0 0) then
  if (gv w7 (gv w7 a0 0) (Int.tmod (w32 ((gv w a0 1) + (gv w a0 2))) 8)) = 0 then
   (if kd w7 a0 = 3 then
   wl (al w7 8 0 6) (fun w8 =>
   if kd w8 (nx w7) = 8 then
   bN (C 75 w8 [rV (nx w7)]) (fun w9 =>
   if ((kd w9 (gv w7 a0 0) = 24 ∧ kd w9 (nx w7) = 5) ∨ (kd w9 (gv w7 a0 0) = 25 ∧ kd w9 (nx w7) = 8) ∨ (kd w9 (gv w7 a0 0) = 26 ∧ kd w9 (nx w7) = 7) ∨ (kd w9 (gv w7 a0 0) = 27 ∧ kd w9 (nx w7) = 30 ∧ 32 ≤ (gv w7 a0 0))) ∧ 0 ≤ (Int.tmod (w32 ((gv w a0 1) + (gv w a0 2))) 8) ∧ (Int.tmod (w32 ((gv w a0 1) + (gv w a0 2))) 8) < ln w9 (gv w7 a0 0) then
   wl (sv w9 (gv w7 a0 0) (Int.tmod (w32 ((gv w a0 1) + (gv w a0 2))) 8) (nx w7)) (fun w10 =>
   if kd w10 a0 = 3 then
   if (24 ≤ kd w10 (gv w10 a0 0) ∧ kd w10 (gv w10 a0 0) ≤ 27) ∧ 0 ≤ (Int.tmod (w32 ((gv w a0 1) + (gv w a0 2))) 8) ∧ (Int.tmod (w32 ((gv w a0 1) + (gv w a0 2))) 8) < ln w10 (gv w10 a0 0) then
   if kd w10 (gv w10 (gv w10 a0 0) (Int.tmod (w32 ((gv w a0 1) + (gv w a0 2))) 8)) = 8 then
   bN (C 76 w10 [rV (gv w10 (gv w10 a0 0) (Int.tmod (w32 ((gv w a0 1) + (gv w a0 2))) 8)), rV a1]) (fun w11 =>
   some (.inr (none, w11))) else none else none else none) else none) else none) else none)
  else
  if kd w7 a0 = 3 then
  if (24 ≤ kd w7 (gv w7 a0 0) ∧ kd w7 (gv w7 a0 0) ≤ 27) ∧ 0 ≤ (Int.tmod (w32 ((gv w a0 1) + (gv w a0 2))) 8) ∧ (Int.tmod (w32 ((gv w a0 1) + (gv w a0 2))) 8) < ln w7 (gv w7 a0 0) then
  if kd w7 (gv w7 (gv w7 a0 0) (Int.tmod (w32 ((gv w a0 1) + (gv w a0 2))) 8)) = 8 then
  bN (C 76 w7 [rV (gv w7 (gv w7 a0 0) (Int.tmod (w32 ((gv w a0 1) + (gv w a0 2))) 8)), rV a1]) (fun w12 =>
  some (.inr (none, w12))) else none else none else none else none else none) else none else none else none else none else none := by
  rfl
set_option maxRecDepth 100000 in
theorem eX3_bringBack_0 (C : sC) (w : sW) (a0 a1 : Int) : sg C mX3_bringBack 2000 0 [some (rV a0), some (rV a1), none] [] w =
  if kd w a0 = 3 then
  if (gv w a0 2) = 0 then
   (some (.inr (some (iV 0), w)))
  else
  if kd w a0 = 3 then
  if kd w a0 = 3 then
  if (8 : Int) = 0 then none else
  if kd w a0 = 3 then
  if (24 ≤ kd w (gv w a0 0) ∧ kd w (gv w a0 0) ≤ 27) ∧ 0 ≤ (Int.tmod (w32 ((w32 ((gv w a0 1) + (gv w a0 2))) - 1)) 8) ∧ (Int.tmod (w32 ((w32 ((gv w a0 1) + (gv w a0 2))) - 1)) 8) < ln w (gv w a0 0) then
  if (gv w (gv w a0 0) (Int.tmod (w32 ((w32 ((gv w a0 1) + (gv w a0 2))) - 1)) 8)) = 0 then
   (some (.inr (some (iV 0), w)))
  else
  if kd w a0 = 3 then
  if kd w a0 = 3 then
  wl (sv w a0 2 (w32 ((gv w a0 2) - 1))) (fun w1 =>
  if kd w1 a0 = 3 then
  if (24 ≤ kd w1 (gv w1 a0 0) ∧ kd w1 (gv w1 a0 0) ≤ 27) ∧ 0 ≤ (Int.tmod (w32 ((w32 ((gv w a0 1) + (gv w a0 2))) - 1)) 8) ∧ (Int.tmod (w32 ((w32 ((gv w a0 1) + (gv w a0 2))) - 1)) 8) < ln w1 (gv w1 a0 0) then
  if kd w1 a1 = 8 then
  bN (C 76 w1 [rV a1, rV (gv w1 (gv w1 a0 0) (Int.tmod (w32 ((w32 ((gv w a0 1) + (gv w a0 2))) - 1)) 8))]) (fun w2 =>
  some (.inr (some (iV 1), w2))) else none else none else none) else none else none else none else none else none else none else none := by
  rfl
set_option maxRecDepth 100000 in
theorem eX4_init_0 (C : sC) (w : sW) (a0 : Int) : sg C mX4_init 2000 0 [some (rV a0)] [] w =
  if kd w a0 = 4 then
  if 0 ≤ (0 : Int) ∧ (0 : Int) ≤ 100000 then
  wl (al w 20 0 (Int.toNat 0)) (fun w1 =>
  if kd w1 a0 = 4 then
  wl (sv w1 a0 0 (nx w)) (fun w2 =>
  some (.inr (none, w2))) else none) else none else none := by
  rfl
set_option maxRecDepth 100000 in
theorem eX4_open_0 (C : sC) (w : sW) (a0 a1 a2 a3 : Int) : sg C mX4_open 2000 0 [some (rV a0), some (rV a1), some (iV a2), some (iV a3)] [] w =
  if kd w a0 = 4 then
  wl (sv w a0 0 a1) (fun w1 =>
  if 20 ≤ kd w1 a1 ∧ kd w1 a1 ≤ 27 then
  if a2 < (ln w1 a1) then
   (if kd w1 a0 = 4 then
   wl (sv w1 a0 1 a2) (fun w2 =>
   if kd w2 a0 = 4 then
   wl (sv w2 a0 2 a3) (fun w3 =>
   if kd w3 a0 = 4 then
   wl (sv w3 a0 3 0) (fun w4 =>
   if kd w4 a0 = 4 then
   wl (sv w4 a0 10 0) (fun w5 =>
   if kd w5 a0 = 4 then
   wl (sv w5 a0 11 0) (fun w6 =>
   if kd w6 a0 = 4 then
   bN (C 16 w6 [rV a0]) (fun w7 =>
   some (.inr (none, w7))) else none) else none) else none) else none) else none) else none)
  else
  if 20 ≤ kd w1 a1 ∧ kd w1 a1 ≤ 27 then
  if kd w1 a0 = 4 then
  wl (sv w1 a0 1 (ln w1 a1)) (fun w8 =>
  if kd w8 a0 = 4 then
  wl (sv w8 a0 2 a3) (fun w9 =>
  if kd w9 a0 = 4 then
  wl (sv w9 a0 3 0) (fun w10 =>
  if kd w10 a0 = 4 then
  wl (sv w10 a0 10 0) (fun w11 =>
  if kd w11 a0 = 4 then
  wl (sv w11 a0 11 0) (fun w12 =>
  if kd w12 a0 = 4 then
  bN (C 16 w12 [rV a0]) (fun w13 =>
  some (.inr (none, w13))) else none) else none) else none) else none) else none) else none else none else none) else none := by
  rfl
set_option maxRecDepth 100000 in
theorem eX4_advance_0 (C : sC) (w : sW) (a0 : Int) : sg C mX4_advance 2000 0 [some (rV a0), none] [] w =
  if kd w a0 = 4 then
  if kd w a0 = 4 then
  if (gv w a0 1) < (gv w a0 2) then
   (if kd w a0 = 4 then
   some (.inl (23, [some (rV a0), some (iV (gv w a0 1))], [], w)) else none)
  else
  if kd w a0 = 4 then
  some (.inl (23, [some (rV a0), some (iV (gv w a0 2))], [], w)) else none else none else none := by
  rfl
set_option maxRecDepth 100000 in
theorem eX4_advance_23 (C : sC) (w : sW) (a0 a1 : Int) : sg C mX4_advance 2000 23 [some (rV a0), some (iV a1)] [] w =
  if kd w a0 = 4 then
  if (gv w a0 3) < a1 then
   (if kd w a0 = 4 then
   if kd w a0 = 4 then
   if kd w (gv w a0 0) = 20 ∧ 0 ≤ (gv w a0 3) ∧ (gv w a0 3) < ln w (gv w a0 0) then
   if (gv w (gv w a0 0) (gv w a0 3)) = 32 then
    (if kd w a0 = 4 then
    if kd w a0 = 4 then
    wl (sv w a0 3 (w32 ((gv w a0 3) + 1))) (fun w1 =>
    some (.inl (23, [some (rV a0), some (iV a1)], [], w1))) else none else none)
   else
   if kd w a0 = 4 then
   if kd w a0 = 4 then
   if kd w (gv w a0 0) = 20 ∧ 0 ≤ (gv w a0 3) ∧ (gv w a0 3) < ln w (gv w a0 0) then
   if (gv w (gv w a0 0) (gv w a0 3)) = 10 then
    (if kd w a0 = 4 then
    if kd w a0 = 4 then
    wl (sv w a0 3 (w32 ((gv w a0 3) + 1))) (fun w2 =>
    some (.inl (23, [some (rV a0), some (iV a1)], [], w2))) else none else none)
   else
   some (.inl (72, [some (rV a0), some (iV a1)], [], w)) else none else none else none else none else none else none)
  else
  some (.inl (72, [some (rV a0), some (iV a1)], [], w)) else none := by
  rfl
set_option maxRecDepth 100000 in
theorem eX4_advance_72 (C : sC) (w : sW) (a0 a1 : Int) : sg C mX4_advance 2000 72 [some (rV a0), some (iV a1)] [] w =
  if kd w a0 = 4 then
  wl (sv w a0 9 0) (fun w1 =>
  if kd w1 a0 = 4 then
  if (gv w1 a0 3) < a1 then
   (if kd w1 a0 = 4 then
   if kd w1 a0 = 4 then
   wl (sv w1 a0 5 (gv w1 a0 3)) (fun w2 =>
   if kd w2 a0 = 4 then
   bN (C 17 w2 [rV a0]) (fun w3 =>
   if kd w3 a0 = 4 then
   if kd w3 a0 = 4 then
   if (gv w3 a0 3) = (gv w3 a0 5) then
    (if kd w3 a0 = 4 then
    if kd w3 a0 = 4 then
    if kd w3 (gv w3 a0 0) = 20 ∧ 0 ≤ (gv w3 a0 3) ∧ (gv w3 a0 3) < ln w3 (gv w3 a0 0) then
    if kd w3 a0 = 4 then
    wl (sv w3 a0 7 (gv w3 (gv w3 a0 0) (gv w3 a0 3))) (fun w4 =>
    if kd w4 a0 = 4 then
    bI (C 18 w4 [iV (gv w4 a0 7)]) (fun x6 w5 =>
    if x6 = 0 then
     (if kd w5 a0 = 4 then
     wl (sv w5 a0 4 1) (fun w7 =>
     if kd w7 a0 = 4 then
     if kd w7 a0 = 4 then
     wl (sv w7 a0 3 (w32 ((gv w7 a0 3) + 1))) (fun w8 =>
     if kd w8 a0 = 4 then
     if (gv w8 a0 4) = 2 then
      (if kd w8 a0 = 4 then
      bR (C 94 w8 [lV (gv w8 a0 8)]) (fun r10 w9 =>
      if kd w9 a0 = 4 then
      wl (sv w9 a0 9 r10) (fun w11 =>
      some (.inr (none, w11))) else none) else none)
     else
     if kd w8 a0 = 4 then
     wl (sv w8 a0 9 0) (fun w12 =>
     some (.inr (none, w12))) else none else none) else none else none) else none)
    else
    if kd w5 a0 = 4 then
    wl (sv w5 a0 4 4) (fun w13 =>
    if kd w13 a0 = 4 then
    if kd w13 a0 = 4 then
    wl (sv w13 a0 3 (w32 ((gv w13 a0 3) + 1))) (fun w14 =>
    if kd w14 a0 = 4 then
    if (gv w14 a0 4) = 2 then
     (if kd w14 a0 = 4 then
     bR (C 94 w14 [lV (gv w14 a0 8)]) (fun r16 w15 =>
     if kd w15 a0 = 4 then
     wl (sv w15 a0 9 r16) (fun w17 =>
     some (.inr (none, w17))) else none) else none)
    else
    if kd w14 a0 = 4 then
    wl (sv w14 a0 9 0) (fun w18 =>
    some (.inr (none, w18))) else none else none) else none else none) else none) else none) else none else none else none else none)
   else
   if kd w3 a0 = 4 then
   if (gv w3 a0 4) = 2 then
    (if kd w3 a0 = 4 then
    bR (C 94 w3 [lV (gv w3 a0 8)]) (fun r20 w19 =>
    if kd w19 a0 = 4 then
    wl (sv w19 a0 9 r20) (fun w21 =>
    some (.inr (none, w21))) else none) else none)
   else
   if kd w3 a0 = 4 then
   wl (sv w3 a0 9 0) (fun w22 =>
   some (.inr (none, w22))) else none else none else none else none) else none) else none else none)
  else
  if kd w1 a0 = 4 then
  wl (sv w1 a0 5 a1) (fun w23 =>
  if kd w23 a0 = 4 then
  if kd w23 a0 = 4 then
  if (gv w23 a0 2) < (gv w23 a0 1) then
   (if kd w23 a0 = 4 then
   wl (sv w23 a0 4 1) (fun w24 =>
   some (.inr (none, w24))) else none)
  else
  if kd w23 a0 = 4 then
  wl (sv w23 a0 4 0) (fun w25 =>
  some (.inr (none, w25))) else none else none else none) else none else none) else none := by
  rfl
set_option maxRecDepth 100000 in
theorem eX4_readLettersAndDigits_0 (C : sC) (w : sW) (a0 : Int) : sg C mX4_readLettersAndDigits 2000 0 [some (rV a0), none, none, none, none] [] w =
  if kd w a0 = 4 then
  wl (sv w a0 8 0) (fun w1 =>
  if kd w1 a0 = 4 then
  wl (sv w1 a0 6 0) (fun w2 =>
  some (.inl (14, [some (rV a0), some (iV 0), some (iV 0), none, none], [], w2))) else none) else none := by
  rfl
set_option maxRecDepth 100000 in
theorem eX4_readLettersAndDigits_14 (C : sC) (w : sW) (a0 a1 a2 : Int) : sg C mX4_readLettersAndDigits 2000 14 [some (rV a0), some (iV a1), some (iV a2), none, none] [] w =
  if kd w a0 = 4 then
  if kd w a0 = 4 then
  if (gv w a0 3) < (gv w a0 1) then
   (if kd w a0 = 4 then
   if kd w a0 = 4 then
   if kd w (gv w a0 0) = 20 ∧ 0 ≤ (gv w a0 3) ∧ (gv w a0 3) < ln w (gv w a0 0) then
   if (gv w (gv w a0 0) (gv w a0 3)) < 97 then
    (if (gv w (gv w a0 0) (gv w a0 3)) < 48 then
     (some (.inl (117, [some (rV a0), some (iV a1), some (iV a2), none, none], [], w)))
    else
    if 57 < (gv w (gv w a0 0) (gv w a0 3)) then
     (some (.inl (117, [some (rV a0), some (iV a1), some (iV a2), none, none], [], w)))
    else
    if kd w a0 = 4 then
    if kd w a0 = 4 then
    wl (sv w a0 6 (w32 ((w32 ((gv w a0 6) * 10)) + (w32 ((gv w (gv w a0 0) (gv w a0 3)) - 48))))) (fun w1 =>
    if kd w1 a0 = 4 then
    if kd w1 a0 = 4 then
    wl (sv w1 a0 3 (w32 ((gv w1 a0 3) + 1))) (fun w2 =>
    some (.inl (14, [some (rV a0), some (iV a1), some (iV (w32 (a2 + 1))), none, none], [], w2))) else none else none) else none else none)
   else
   if 122 < (gv w (gv w a0 0) (gv w a0 3)) then
    (if (gv w (gv w a0 0) (gv w a0 3)) < 48 then
     (some (.inl (117, [some (rV a0), some (iV a1), some (iV a2), none, none], [], w)))
    else
    if 57 < (gv w (gv w a0 0) (gv w a0 3)) then
     (some (.inl (117, [some (rV a0), some (iV a1), some (iV a2), none, none], [], w)))
    else
    if kd w a0 = 4 then
    if kd w a0 = 4 then
    wl (sv w a0 6 (w32 ((w32 ((gv w a0 6) * 10)) + (w32 ((gv w (gv w a0 0) (gv w a0 3)) - 48))))) (fun w3 =>
    if kd w3 a0 = 4 then
    if kd w3 a0 = 4 then
    wl (sv w3 a0 3 (w32 ((gv w3 a0 3) + 1))) (fun w4 =>
    some (.inl (14, [some (rV a0), some (iV a1), some (iV (w32 (a2 + 1))), none, none], [], w4))) else none else none) else none else none)
   else
   if kd w a0 = 4 then
   if kd w a0 = 4 then
   wl (sv w a0 8 (w64 ((w64 ((gv w a0 8) * 32)) + (w32 ((w32 ((gv w (gv w a0 0) (gv w a0 3)) - 97)) + 1))))) (fun w5 =>
   if kd w5 a0 = 4 then
   if kd w5 a0 = 4 then
   wl (sv w5 a0 3 (w32 ((gv w5 a0 3) + 1))) (fun w6 =>
   some (.inl (14, [some (rV a0), some (iV (w32 (a1 + 1))), some (iV a2), none, none], [], w6))) else none else none) else none else none else none else none else none)
  else
  some (.inl (117, [some (rV a0), some (iV a1), some (iV a2), none, none], [], w)) else none else none := by
  rfl
set_option maxRecDepth 100000 in
theorem eX4_readLettersAndDigits_117 (C : sC) (w : sW) (a0 a1 a2 : Int) : sg C mX4_readLettersAndDigits 2000 117 [some (rV a0), some (iV a1), some (iV a2), none, none] [] w =
  if a2 = 0 then
   (if a1 < 1 then
    (some (.inl (137, [some (rV a0), some (iV a1), some (iV a2), none, none], [iV 0], w)))
   else
   if 7 < a1 then
    (some (.inl (137, [some (rV a0), some (iV a1), some (iV a2), none, none], [iV 0], w)))
   else
   some (.inl (137, [some (rV a0), some (iV a1), some (iV a2), none, none], [iV 1], w)))
  else
  some (.inl (137, [some (rV a0), some (iV a1), some (iV a2), none, none], [iV 0], w)) := by
  rfl
set_option maxRecDepth 100000 in
theorem eX4_readLettersAndDigits_137 (C : sC) (w : sW) (a0 a1 a2 b0 : Int) : sg C mX4_readLettersAndDigits 2000 137 [some (rV a0), some (iV a1), some (iV a2), none, none] [iV b0] w =
  if a1 = 0 then
   (if a2 < 1 then
    (if b0 = 0 then
     (if (0 : Int) = 0 then
      (if kd w a0 = 4 then
      wl (sv w a0 4 1) (fun w1 =>
      some (.inr (none, w1))) else none)
     else
     if kd w a0 = 4 then
     wl (sv w a0 4 3) (fun w2 =>
     some (.inr (none, w2))) else none)
    else
    if kd w a0 = 4 then
    wl (sv w a0 4 2) (fun w3 =>
    some (.inr (none, w3))) else none)
   else
   if 3 < a2 then
    (if b0 = 0 then
     (if (0 : Int) = 0 then
      (if kd w a0 = 4 then
      wl (sv w a0 4 1) (fun w4 =>
      some (.inr (none, w4))) else none)
     else
     if kd w a0 = 4 then
     wl (sv w a0 4 3) (fun w5 =>
     some (.inr (none, w5))) else none)
    else
    if kd w a0 = 4 then
    wl (sv w a0 4 2) (fun w6 =>
    some (.inr (none, w6))) else none)
   else
   if b0 = 0 then
    (if (1 : Int) = 0 then
     (if kd w a0 = 4 then
     wl (sv w a0 4 1) (fun w7 =>
     some (.inr (none, w7))) else none)
    else
    if kd w a0 = 4 then
    wl (sv w a0 4 3) (fun w8 =>
    some (.inr (none, w8))) else none)
   else
   if kd w a0 = 4 then
   wl (sv w a0 4 2) (fun w9 =>
   some (.inr (none, w9))) else none)
  else
  if b0 = 0 then
   (if (0 : Int) = 0 then
    (if kd w a0 = 4 then
    wl (sv w a0 4 1) (fun w10 =>
    some (.inr (none, w10))) else none)
   else
   if kd w a0 = 4 then
   wl (sv w a0 4 3) (fun w11 =>
   some (.inr (none, w11))) else none)
  else
  if kd w a0 = 4 then
  wl (sv w a0 4 2) (fun w12 =>
  some (.inr (none, w12))) else none := by
  rfl
set_option maxRecDepth 100000 in
theorem eX4_isSign_0 (C : sC) (w : sW) (a0 : Int) : sg C mX4_isSign 2000 0 [some (iV a0)] [] w =
  if a0 = 59 then
   (some (.inr (some (iV 1), w)))
  else
  if a0 = 60 then
   (some (.inr (some (iV 1), w)))
  else
  if a0 = 61 then
   (some (.inr (some (iV 1), w)))
  else
  if a0 = 62 then
   (some (.inr (some (iV 1), w)))
  else
  if a0 = 40 then
   (some (.inr (some (iV 1), w)))
  else
  if a0 = 41 then
   (some (.inr (some (iV 1), w)))
  else
  some (.inr (some (iV 0), w)) := by
  rfl
set_option maxRecDepth 100000 in
theorem eX4_goesOn_0 (C : sC) (w : sW) (a0 : Int) : sg C mX4_goesOn 2000 0 [some (rV a0)] [] w =
  if kd w a0 = 4 then
  if (gv w a0 10) = 0 then
   (if kd w a0 = 4 then
   if (gv w a0 4) = 0 then
    (some (.inr (some (iV 0), w)))
   else
   some (.inr (some (iV 1), w)) else none)
  else
  some (.inr (some (iV 0), w)) else none := by
  rfl
set_option maxRecDepth 100000 in
theorem eX4_fail_0 (C : sC) (w : sW) (a0 a1 : Int) : sg C mX4_fail 2000 0 [some (rV a0), some (iV a1)] [] w =
  if kd w a0 = 4 then
  if (gv w a0 10) = 0 then
   (if kd w a0 = 4 then
   wl (sv w a0 10 a1) (fun w1 =>
   if kd w1 a0 = 4 then
   if kd w1 a0 = 4 then
   wl (sv w1 a0 11 (gv w1 a0 5)) (fun w2 =>
   some (.inr (none, w2))) else none else none) else none)
  else
  some (.inr (none, w)) else none := by
  rfl
set_option maxRecDepth 100000 in
theorem eX4_isAtName_0 (C : sC) (w : sW) (a0 : Int) : sg C mX4_isAtName 2000 0 [some (rV a0)] [] w =
  if kd w a0 = 4 then
  if (gv w a0 4) = 2 then
   (if kd w a0 = 4 then
   if (gv w a0 9) = 0 then
    (some (.inr (some (iV 1), w)))
   else
   some (.inr (some (iV 0), w)) else none)
  else
  some (.inr (some (iV 0), w)) else none := by
  rfl
set_option maxRecDepth 100000 in
theorem eX4_isAtSign_0 (C : sC) (w : sW) (a0 a1 : Int) : sg C mX4_isAtSign 2000 0 [some (rV a0), some (iV a1)] [] w =
  if kd w a0 = 4 then
  if (gv w a0 4) = 4 then
   (if kd w a0 = 4 then
   if (gv w a0 7) = a1 then
    (some (.inr (some (iV 1), w)))
   else
   some (.inr (some (iV 0), w)) else none)
  else
  some (.inr (some (iV 0), w)) else none := by
  rfl
set_option maxRecDepth 100000 in
theorem eX4_takeSign_0 (C : sC) (w : sW) (a0 a1 : Int) : sg C mX4_takeSign 2000 0 [some (rV a0), some (iV a1)] [] w =
  if kd w a0 = 4 then
  if (gv w a0 10) = 0 then
   (if kd w a0 = 4 then
   bI (C 22 w [rV a0, iV a1]) (fun x2 w1 =>
   if x2 = 0 then
    (if kd w1 a0 = 4 then
    bN (C 20 w1 [rV a0, iV 1]) (fun w3 =>
    some (.inr (none, w3))) else none)
   else
   if kd w1 a0 = 4 then
   bN (C 16 w1 [rV a0]) (fun w4 =>
   some (.inr (none, w4))) else none) else none)
  else
  some (.inr (none, w)) else none := by
  rfl
set_option maxRecDepth 100000 in
theorem eX4_takeComparison_0 (C : sC) (w : sW) (a0 : Int) : sg C mX4_takeComparison 2000 0 [some (rV a0), none] [] w =
  if kd w a0 = 4 then
  if (gv w a0 10) = 0 then
   (if kd w a0 = 4 then
   bI (C 22 w [rV a0, iV 60]) (fun x2 w1 =>
   if x2 = 0 then
    (if kd w1 a0 = 4 then
    bI (C 22 w1 [rV a0, iV 61]) (fun x4 w3 =>
    if x4 = 0 then
     (if kd w3 a0 = 4 then
     bI (C 22 w3 [rV a0, iV 62]) (fun x6 w5 =>
     if x6 = 0 then
      (if kd w5 a0 = 4 then
      bN (C 20 w5 [rV a0, iV 1]) (fun w7 =>
      some (.inr (some (iV 0), w7))) else none)
     else
     if kd w5 a0 = 4 then
     if kd w5 a0 = 4 then
     bN (C 16 w5 [rV a0]) (fun w8 =>
     some (.inr (some (iV (gv w5 a0 7)), w8))) else none else none) else none)
    else
    if kd w3 a0 = 4 then
    if kd w3 a0 = 4 then
    bN (C 16 w3 [rV a0]) (fun w9 =>
    some (.inr (some (iV (gv w3 a0 7)), w9))) else none else none) else none)
   else
   if kd w1 a0 = 4 then
   if kd w1 a0 = 4 then
   bN (C 16 w1 [rV a0]) (fun w10 =>
   some (.inr (some (iV (gv w1 a0 7)), w10))) else none else none) else none)
  else
  some (.inr (some (iV 0), w)) else none := by
  rfl
set_option maxRecDepth 100000 in
theorem eX4_takeNumber_0 (C : sC) (w : sW) (a0 a1 a2 : Int) : sg C mX4_takeNumber 2000 0 [some (rV a0), some (iV a1), some (iV a2), none] [] w =
  if kd w a0 = 4 then
  if (gv w a0 10) = 0 then
   (if kd w a0 = 4 then
   if (gv w a0 4) = 3 then
    (if kd w a0 = 4 then
    if (gv w a0 6) < a1 then
     (if kd w a0 = 4 then
     bN (C 20 w [rV a0, iV 2]) (fun w1 =>
     some (.inr (some (iV (-1)), w1))) else none)
    else
    if kd w a0 = 4 then
    if a2 < (gv w a0 6) then
     (if kd w a0 = 4 then
     bN (C 20 w [rV a0, iV 2]) (fun w2 =>
     some (.inr (some (iV (-1)), w2))) else none)
    else
    if kd w a0 = 4 then
    if kd w a0 = 4 then
    bN (C 16 w [rV a0]) (fun w3 =>
    some (.inr (some (iV (gv w a0 6)), w3))) else none else none else none else none)
   else
   if kd w a0 = 4 then
   bN (C 20 w [rV a0, iV 1]) (fun w4 =>
   some (.inr (some (iV (-1)), w4))) else none else none)
  else
  some (.inr (some (iV (-1)), w)) else none := by
  rfl
set_option maxRecDepth 100000 in
theorem eX4_takeRow_0 (C : sC) (w : sW) (a0 a1 a2 : Int) : sg C mX4_takeRow 2000 0 [some (rV a0), some (rV a1), some (iV a2), none] [] w =
  if kd w a0 = 4 then
  if (gv w a0 10) = 0 then
   (if kd w a0 = 4 then
   bI (C 21 w [rV a0]) (fun x2 w1 =>
   if x2 = 0 then
    (if kd w1 a0 = 4 then
    bN (C 20 w1 [rV a0, iV 1]) (fun w3 =>
    some (.inr (some (iV (-1)), w3))) else none)
   else
   if kd w1 a0 = 4 then
   if kd w1 a1 = 8 then
   bI (C 78 w1 [rV a1, lV (gv w1 a0 8)]) (fun x5 w4 =>
   if x5 = (-1) then
    (if kd w4 a0 = 4 then
    bN (C 20 w4 [rV a0, iV 3]) (fun w6 =>
    some (.inr (some (iV (-1)), w6))) else none)
   else
   if x5 = a2 then
    (if kd w4 a0 = 4 then
    bN (C 20 w4 [rV a0, iV 3]) (fun w7 =>
    some (.inr (some (iV (-1)), w7))) else none)
   else
   if kd w4 a0 = 4 then
   bN (C 16 w4 [rV a0]) (fun w8 =>
   some (.inr (some (iV x5), w8))) else none) else none else none) else none)
  else
  some (.inr (some (iV (-1)), w)) else none := by
  rfl
set_option maxRecDepth 100000 in
theorem eX4_lettersOfWord_0 (C : sC) (w : sW) (a0 : Int) : sg C mX4_lettersOfWord 2000 0 [some (rV a0)] [] w =
  if kd w a0 = 4 then
  if kd w a0 = 4 then
  some (.inr (some (iV (w32 ((gv w a0 3) - (gv w a0 5)))), w)) else none else none := by
  rfl
set_option maxRecDepth 100000 in
theorem eX4_letterOfWord_0 (C : sC) (w : sW) (a0 a1 : Int) : sg C mX4_letterOfWord 2000 0 [some (rV a0), some (iV a1), none] [] w =
  if kd w a0 = 4 then
  if (w32 ((gv w a0 5) + a1)) < 0 then
   (some (.inr (some (iV 0), w)))
  else
  if kd w a0 = 4 then
  if (w32 ((gv w a0 5) + a1)) < (gv w a0 1) then
   (if kd w a0 = 4 then
   if kd w (gv w a0 0) = 20 ∧ 0 ≤ (w32 ((gv w a0 5) + a1)) ∧ (w32 ((gv w a0 5) + a1)) < ln w (gv w a0 0) then
   some (.inr (some (iV (gv w (gv w a0 0) (w32 ((gv w a0 5) + a1)))), w)) else none else none)
  else
  some (.inr (some (iV 0), w)) else none else none := by
  rfl
set_option maxRecDepth 100000 in
theorem eX5_init_0 (C : sC) (w : sW) (a0 : Int) : sg C mX5_init 2000 0 [some (rV a0)] [] w =
  if kd w a0 = 5 then
  if 0 ≤ (600 : Int) ∧ (600 : Int) ≤ 100000 then
  wl (al w 21 600 (Int.toNat 600)) (fun w1 =>
  if kd w1 a0 = 5 then
  wl (sv w1 a0 0 (nx w)) (fun w2 =>
  if 0 ≤ (152 : Int) ∧ (152 : Int) ≤ 100000 then
  wl (al w2 20 152 (Int.toNat 152)) (fun w3 =>
  if kd w3 a0 = 5 then
  wl (sv w3 a0 1 (nx w2)) (fun w4 =>
  some (.inr (none, w4))) else none) else none) else none) else none else none := by
  rfl
set_option maxRecDepth 100000 in
theorem eX5_clear_0 (C : sC) (w : sW) (a0 : Int) : sg C mX5_clear 2000 0 [some (rV a0)] [] w =
  if kd w a0 = 5 then
  wl (sv w a0 2 0) (fun w1 =>
  if kd w1 a0 = 5 then
  wl (sv w1 a0 3 0) (fun w2 =>
  some (.inr (none, w2))) else none) else none := by
  rfl
set_option maxRecDepth 100000 in
theorem eX5_copyFrom_0 (C : sC) (w : sW) (a0 a1 : Int) : sg C mX5_copyFrom 2000 0 [some (rV a0), some (rV a1)] [] w =
  if kd w a1 = 5 then
  if kd w a0 = 5 then
  if kd w a1 = 5 then
  if ((kd w (gv w a1 0) = 20 ∧ kd w (gv w a0 0) = 20) ∨ (kd w (gv w a1 0) = 21 ∧ kd w (gv w a0 0) = 21)) ∧ 32 ≤ (gv w a1 0) ∧ 32 ≤ (gv w a0 0) ∧ 0 ≤ (0 : Int) ∧ 0 ≤ (0 : Int) ∧ 0 ≤ (gv w a1 2) ∧ 0 + (gv w a1 2) ≤ ln w (gv w a1 0) ∧ 0 + (gv w a1 2) ≤ ln w (gv w a0 0) then
  wl (cp w (gv w a1 0) 0 (gv w a0 0) 0 (gv w a1 2)) (fun w1 =>
  if kd w1 a1 = 5 then
  if kd w1 a0 = 5 then
  if kd w1 a1 = 5 then
  if ((kd w1 (gv w1 a1 1) = 20 ∧ kd w1 (gv w1 a0 1) = 20) ∨ (kd w1 (gv w1 a1 1) = 21 ∧ kd w1 (gv w1 a0 1) = 21)) ∧ 32 ≤ (gv w1 a1 1) ∧ 32 ≤ (gv w1 a0 1) ∧ 0 ≤ (0 : Int) ∧ 0 ≤ (0 : Int) ∧ 0 ≤ (gv w1 a1 3) ∧ 0 + (gv w1 a1 3) ≤ ln w1 (gv w1 a1 1) ∧ 0 + (gv w1 a1 3) ≤ ln w1 (gv w1 a0 1) then
  wl (cp w1 (gv w1 a1 1) 0 (gv w1 a0 1) 0 (gv w1 a1 3)) (fun w2 =>
  if kd w2 a1 = 5 then
  if kd w2 a0 = 5 then
  wl (sv w2 a0 2 (gv w2 a1 2)) (fun w3 =>
  if kd w3 a1 = 5 then
  if kd w3 a0 = 5 then
  wl (sv w3 a0 3 (gv w3 a1 3)) (fun w4 =>
  some (.inr (none, w4))) else none else none) else none else none) else none else none else none else none) else none else none else none else none := by
  rfl
set_option maxRecDepth 100000 in
theorem eX5_hasGap_0 (C : sC) (w : sW) (a0 a1 : Int) : sg C mX5_hasGap 2000 0 [some (rV a0), some (iV a1)] [] w =
  if a1 < 0 then
   (some (.inr (some (iV 0), w)))
  else
  if kd w a0 = 5 then
  if (gv w a0 2) < a1 then
   (some (.inr (some (iV 0), w)))
  else
  some (.inr (some (iV 1), w)) else none := by
  rfl
set_option maxRecDepth 100000 in
theorem eX5_hasRange_0 (C : sC) (w : sW) (a0 a1 a2 : Int) : sg C mX5_hasRange 2000 0 [some (rV a0), some (iV a1), some (iV a2)] [] w =
  if a1 < 0 then
   (some (.inr (some (iV 0), w)))
  else
  if a2 < 0 then
   (some (.inr (some (iV 0), w)))
  else
  if kd w a0 = 5 then
  if (w32 ((gv w a0 2) - a2)) < a1 then
   (some (.inr (some (iV 0), w)))
  else
  some (.inr (some (iV 1), w)) else none := by
  rfl
set_option maxRecDepth 100000 in
theorem eX5_bitAt_0 (C : sC) (w : sW) (a0 a1 : Int) : sg C mX5_bitAt 2000 0 [some (rV a0), some (iV a1)] [] w =
  if a1 < 0 then
   (some (.inr (some (iV (-1)), w)))
  else
  if kd w a0 = 5 then
  if a1 < (gv w a0 2) then
   (if kd w a0 = 5 then
   if (kd w (gv w a0 0) = 21 ∨ kd w (gv w a0 0) = 23) ∧ 0 ≤ a1 ∧ a1 < ln w (gv w a0 0) then
   some (.inr (some (iV (gv w (gv w a0 0) a1)), w)) else none else none)
  else
  some (.inr (some (iV (-1)), w)) else none := by
  rfl
set_option maxRecDepth 100000 in
theorem eX5_countIn_0 (C : sC) (w : sW) (a0 a1 a2 a3 : Int) : sg C mX5_countIn 2000 0 [some (rV a0), some (iV a1), some (iV a2), some (iV a3), none, none] [] w =
  if kd w a0 = 5 then
  bI (C 33 w [rV a0, iV a1, iV a2]) (fun x2 w1 =>
  if x2 = 0 then
   (some (.inr (some (iV 0), w1)))
  else
  some (.inl (15, [some (rV a0), some (iV a1), some (iV a2), some (iV a3), some (iV 0), some (iV a1)], [], w1))) else none := by
  rfl
set_option maxRecDepth 100000 in
theorem eX5_countIn_15 (C : sC) (w : sW) (a0 a1 a2 a3 a4 a5 : Int) : sg C mX5_countIn 2000 15 [some (rV a0), some (iV a1), some (iV a2), some (iV a3), some (iV a4), some (iV a5)] [] w =
  if a5 < (w32 (a1 + a2)) then
   (if kd w a0 = 5 then
   if (kd w (gv w a0 0) = 21 ∨ kd w (gv w a0 0) = 23) ∧ 0 ≤ a5 ∧ a5 < ln w (gv w a0 0) then
   if (gv w (gv w a0 0) a5) = a3 then
    (some (.inl (15, [some (rV a0), some (iV a1), some (iV a2), some (iV a3), some (iV (w32 (a4 + 1))), some (iV (w32 (a5 + 1)))], [], w)))
   else
   some (.inl (15, [some (rV a0), some (iV a1), some (iV a2), some (iV a3), some (iV a4), some (iV (w32 (a5 + 1)))], [], w)) else none else none)
  else
  some (.inr (some (iV a4), w)) := by
  rfl
set_option maxRecDepth 100000 in
theorem eX5_placeOf_0 (C : sC) (w : sW) (a0 a1 a2 : Int) : sg C mX5_placeOf 2000 0 [some (rV a0), some (iV a1), some (iV a2), none, none] [] w =
  some (.inl (5, [some (rV a0), some (iV a1), some (iV a2), some (iV 0), some (iV 0)], [], w)) := by
  rfl
set_option maxRecDepth 100000 in
theorem eX5_placeOf_5 (C : sC) (w : sW) (a0 a1 a2 a3 a4 : Int) : sg C mX5_placeOf 2000 5 [some (rV a0), some (iV a1), some (iV a2), some (iV a3), some (iV a4)] [] w =
  if kd w a0 = 5 then
  if a4 < (gv w a0 2) then
   (if kd w a0 = 5 then
   if (kd w (gv w a0 0) = 21 ∨ kd w (gv w a0 0) = 23) ∧ 0 ≤ a4 ∧ a4 < ln w (gv w a0 0) then
   if (gv w (gv w a0 0) a4) = a2 then
    (if a3 = a1 then
     (some (.inr (some (iV a4), w)))
    else
    some (.inl (5, [some (rV a0), some (iV a1), some (iV a2), some (iV (w32 (a3 + 1))), some (iV (w32 (a4 + 1)))], [], w)))
   else
   some (.inl (5, [some (rV a0), some (iV a1), some (iV a2), some (iV a3), some (iV (w32 (a4 + 1)))], [], w)) else none else none)
  else
  some (.inr (some (iV (-1)), w)) else none := by
  rfl
set_option maxRecDepth 100000 in
theorem eX5_nextPlace_0 (C : sC) (w : sW) (a0 a1 a2 : Int) : sg C mX5_nextPlace 2000 0 [some (rV a0), some (iV a1), some (iV a2), none] [] w =
  if a1 < 0 then
   (some (.inr (some (iV (-1)), w)))
  else
  some (.inl (8, [some (rV a0), none, some (iV a2), some (iV a1)], [], w)) := by
  rfl
set_option maxRecDepth 100000 in
theorem eX5_nextPlace_8 (C : sC) (w : sW) (a0 a2 a3 : Int) : sg C mX5_nextPlace 2000 8 [some (rV a0), none, some (iV a2), some (iV a3)] [] w =
  if kd w a0 = 5 then
  if a3 < (gv w a0 2) then
   (if kd w a0 = 5 then
   if (kd w (gv w a0 0) = 21 ∨ kd w (gv w a0 0) = 23) ∧ 0 ≤ a3 ∧ a3 < ln w (gv w a0 0) then
   if (gv w (gv w a0 0) a3) = a2 then
    (some (.inr (some (iV a3), w)))
   else
   some (.inl (8, [some (rV a0), none, some (iV a2), some (iV (w32 (a3 + 1)))], [], w)) else none else none)
  else
  some (.inr (some (iV (-1)), w)) else none := by
  rfl
set_option maxRecDepth 100000 in
theorem eX5_runCount_0 (C : sC) (w : sW) (a0 : Int) : sg C mX5_runCount 2000 0 [some (rV a0), none, none] [] w =
  if kd w a0 = 5 then
  if 0 < (gv w a0 2) then
   (some (.inl (15, [some (rV a0), some (iV 1), some (iV 1)], [], w)))
  else
  some (.inl (15, [some (rV a0), some (iV 0), some (iV 1)], [], w)) else none := by
  rfl
set_option maxRecDepth 100000 in
theorem eX5_runCount_15 (C : sC) (w : sW) (a0 a1 a2 : Int) : sg C mX5_runCount 2000 15 [some (rV a0), some (iV a1), some (iV a2)] [] w =
  if kd w a0 = 5 then
  if a2 < (gv w a0 2) then
   (if kd w a0 = 5 then
   if (kd w (gv w a0 0) = 21 ∨ kd w (gv w a0 0) = 23) ∧ 0 ≤ a2 ∧ a2 < ln w (gv w a0 0) then
   if kd w a0 = 5 then
   if (kd w (gv w a0 0) = 21 ∨ kd w (gv w a0 0) = 23) ∧ 0 ≤ (w32 (a2 - 1)) ∧ (w32 (a2 - 1)) < ln w (gv w a0 0) then
   if (gv w (gv w a0 0) a2) = (gv w (gv w a0 0) (w32 (a2 - 1))) then
    (some (.inl (15, [some (rV a0), some (iV a1), some (iV (w32 (a2 + 1)))], [], w)))
   else
   some (.inl (15, [some (rV a0), some (iV (w32 (a1 + 1))), some (iV (w32 (a2 + 1)))], [], w)) else none else none else none else none)
  else
  some (.inr (some (iV a1), w)) else none := by
  rfl
set_option maxRecDepth 100000 in
theorem eX5_longestRun_0 (C : sC) (w : sW) (a0 a1 : Int) : sg C mX5_longestRun 2000 0 [some (rV a0), some (iV a1), none, none, none] [] w =
  some (.inl (7, [some (rV a0), some (iV a1), some (iV 0), some (iV 0), some (iV 0)], [], w)) := by
  rfl
set_option maxRecDepth 100000 in
theorem eX5_longestRun_7 (C : sC) (w : sW) (a0 a1 a2 a3 a4 : Int) : sg C mX5_longestRun 2000 7 [some (rV a0), some (iV a1), some (iV a2), some (iV a3), some (iV a4)] [] w =
  if kd w a0 = 5 then
  if a4 < (gv w a0 2) then
   (if kd w a0 = 5 then
   if (kd w (gv w a0 0) = 21 ∨ kd w (gv w a0 0) = 23) ∧ 0 ≤ a4 ∧ a4 < ln w (gv w a0 0) then
   if (gv w (gv w a0 0) a4) = a1 then
    (some (.inl (7, [some (rV a0), some (iV a1), some (iV (if a2 < (w32 (a3 + 1)) then (w32 (a3 + 1)) else a2)), some (iV (w32 (a3 + 1))), some (iV (w32 (a4 + 1)))], [], w)))
   else
   some (.inl (7, [some (rV a0), some (iV a1), some (iV (if a2 < 0 then 0 else a2)), some (iV 0), some (iV (w32 (a4 + 1)))], [], w)) else none else none)
  else
  some (.inr (some (iV a2), w)) else none := by
  rfl
set_option maxRecDepth 100000 in
theorem eX5_wordFrom_0 (C : sC) (w : sW) (a0 a1 : Int) : sg C mX5_wordFrom 2000 0 [some (rV a0), some (iV a1), none, none] [] w =
  some (.inl (4, [some (rV a0), some (iV a1), some (iV 0), some (iV a1)], [], w)) := by
  rfl
set_option maxRecDepth 100000 in
theorem eX5_wordFrom_4 (C : sC) (w : sW) (a0 a1 a2 a3 : Int) : sg C mX5_wordFrom 2000 4 [some (rV a0), some (iV a1), some (iV a2), some (iV a3)] [] w =
  if a3 < (w32 (a1 + 32)) then
   (if kd w a0 = 5 then
   bI (C 34 w [rV a0, iV a3]) (fun x2 w1 =>
   if x2 = 1 then
    (some (.inl (4, [some (rV a0), some (iV a1), some (iV (f_ior (f_ishl a2 1) 1)), some (iV (w32 (a3 + 1)))], [], w1)))
   else
   some (.inl (4, [some (rV a0), some (iV a1), some (iV (f_ior (f_ishl a2 1) 0)), some (iV (w32 (a3 + 1)))], [], w1))) else none)
  else
  some (.inr (some (iV a2), w)) := by
  rfl
set_option maxRecDepth 100000 in
theorem eX5_sumOfPlaces_0 (C : sC) (w : sW) (a0 : Int) : sg C mX5_sumOfPlaces 2000 0 [some (rV a0), none, none] [] w =
  some (.inl (4, [some (rV a0), some (iV 0), some (iV 0)], [], w)) := by
  rfl
set_option maxRecDepth 100000 in
theorem eX5_sumOfPlaces_4 (C : sC) (w : sW) (a0 a1 a2 : Int) : sg C mX5_sumOfPlaces 2000 4 [some (rV a0), some (iV a1), some (iV a2)] [] w =
  if kd w a0 = 5 then
  if a2 < (gv w a0 2) then
   (if kd w a0 = 5 then
   if (kd w (gv w a0 0) = 21 ∨ kd w (gv w a0 0) = 23) ∧ 0 ≤ a2 ∧ a2 < ln w (gv w a0 0) then
   if (gv w (gv w a0 0) a2) = 1 then
    (some (.inl (4, [some (rV a0), some (iV (w32 (a1 + a2))), some (iV (w32 (a2 + 1)))], [], w)))
   else
   some (.inl (4, [some (rV a0), some (iV (w32 (a1 + 0))), some (iV (w32 (a2 + 1)))], [], w)) else none else none)
  else
  some (.inr (some (iV a1), w)) else none := by
  rfl
set_option maxRecDepth 100000 in
theorem eX5_unlikeBits_0 (C : sC) (w : sW) (a0 a1 : Int) : sg C mX5_unlikeBits 2000 0 [some (rV a0), some (rV a1), none, none, none] [] w =
  if kd w a0 = 5 then
  if kd w a1 = 5 then
  if kd w a0 = 5 then
  if kd w a1 = 5 then
  some (.inl (29, [some (rV a0), some (rV a1), some (iV (if (gv w a1 2) < (gv w a0 2) then (gv w a1 2) else (gv w a0 2))), some (iV (w32 ((if (gv w a0 2) < (gv w a1 2) then (gv w a1 2) else (gv w a0 2)) - (if (gv w a1 2) < (gv w a0 2) then (gv w a1 2) else (gv w a0 2))))), some (iV 0)], [], w)) else none else none else none else none := by
  rfl
set_option maxRecDepth 100000 in
theorem eX5_unlikeBits_29 (C : sC) (w : sW) (a0 a1 a2 a3 a4 : Int) : sg C mX5_unlikeBits 2000 29 [some (rV a0), some (rV a1), some (iV a2), some (iV a3), some (iV a4)] [] w =
  if a4 < a2 then
   (if kd w a0 = 5 then
   if (kd w (gv w a0 0) = 21 ∨ kd w (gv w a0 0) = 23) ∧ 0 ≤ a4 ∧ a4 < ln w (gv w a0 0) then
   if kd w a1 = 5 then
   if (kd w (gv w a1 0) = 21 ∨ kd w (gv w a1 0) = 23) ∧ 0 ≤ a4 ∧ a4 < ln w (gv w a1 0) then
   if (gv w (gv w a0 0) a4) = (gv w (gv w a1 0) a4) then
    (some (.inl (29, [some (rV a0), some (rV a1), some (iV a2), some (iV a3), some (iV (w32 (a4 + 1)))], [], w)))
   else
   some (.inl (29, [some (rV a0), some (rV a1), some (iV a2), some (iV (w32 (a3 + 1))), some (iV (w32 (a4 + 1)))], [], w)) else none else none else none else none)
  else
  some (.inr (some (iV a3), w)) := by
  rfl
set_option maxRecDepth 100000 in
theorem eX5_firstUnlike_0 (C : sC) (w : sW) (a0 a1 : Int) : sg C mX5_firstUnlike 2000 0 [some (rV a0), some (rV a1), none, none] [] w =
  if kd w a0 = 5 then
  if kd w a1 = 5 then
  some (.inl (14, [some (rV a0), some (rV a1), some (iV (if (gv w a1 2) < (gv w a0 2) then (gv w a1 2) else (gv w a0 2))), some (iV 0)], [], w)) else none else none := by
  rfl
set_option maxRecDepth 100000 in
theorem eX5_firstUnlike_14 (C : sC) (w : sW) (a0 a1 a2 a3 : Int) : sg C mX5_firstUnlike 2000 14 [some (rV a0), some (rV a1), some (iV a2), some (iV a3)] [] w =
  if a3 < a2 then
   (if kd w a0 = 5 then
   if (kd w (gv w a0 0) = 21 ∨ kd w (gv w a0 0) = 23) ∧ 0 ≤ a3 ∧ a3 < ln w (gv w a0 0) then
   if kd w a1 = 5 then
   if (kd w (gv w a1 0) = 21 ∨ kd w (gv w a1 0) = 23) ∧ 0 ≤ a3 ∧ a3 < ln w (gv w a1 0) then
   if (gv w (gv w a0 0) a3) = (gv w (gv w a1 0) a3) then
    (some (.inl (14, [some (rV a0), some (rV a1), some (iV a2), some (iV (w32 (a3 + 1)))], [], w)))
   else
   some (.inr (some (iV a3), w)) else none else none else none else none)
  else
  if kd w a0 = 5 then
  if kd w a1 = 5 then
  if (gv w a0 2) = (gv w a1 2) then
   (some (.inr (some (iV (-1)), w)))
  else
  some (.inr (some (iV a2), w)) else none else none := by
  rfl
set_option maxRecDepth 100000 in
theorem eX5_beginsWith_0 (C : sC) (w : sW) (a0 a1 : Int) : sg C mX5_beginsWith 2000 0 [some (rV a0), some (rV a1), none] [] w =
  if kd w a0 = 5 then
  bI (C 43 w [rV a0, rV a1]) (fun x2 w1 =>
  if x2 = (-1) then
   (some (.inr (some (iV 1), w1)))
  else
  if kd w1 a1 = 5 then
  if x2 = (gv w1 a1 2) then
   (some (.inr (some (iV 1), w1)))
  else
  some (.inr (some (iV 0), w1)) else none) else none := by
  rfl
set_option maxRecDepth 100000 in
theorem eX5_hasAt_0 (C : sC) (w : sW) (a0 a1 a2 a3 : Int) : sg C mX5_hasAt 2000 0 [some (rV a0), some (iV a1), some (rV a2), some (iV a3), none] [] w =
  if kd w a0 = 5 then
  bI (C 33 w [rV a0, iV a1, iV a3]) (fun x2 w1 =>
  if x2 = 0 then
   (some (.inr (some (iV 0), w1)))
  else
  if 20 ≤ kd w1 a2 ∧ kd w1 a2 ≤ 27 then
  if (ln w1 a2) < a3 then
   (some (.inr (some (iV 0), w1)))
  else
  some (.inl (20, [some (rV a0), some (iV a1), some (rV a2), some (iV a3), some (iV 0)], [], w1)) else none) else none := by
  rfl
set_option maxRecDepth 100000 in
theorem eX5_hasAt_20 (C : sC) (w : sW) (a0 a1 a2 a3 a4 : Int) : sg C mX5_hasAt 2000 20 [some (rV a0), some (iV a1), some (rV a2), some (iV a3), some (iV a4)] [] w =
  if a4 < a3 then
   (if kd w a0 = 5 then
   if (kd w (gv w a0 0) = 21 ∨ kd w (gv w a0 0) = 23) ∧ 0 ≤ (w32 (a1 + a4)) ∧ (w32 (a1 + a4)) < ln w (gv w a0 0) then
   if kd w a2 = 20 ∧ 0 ≤ a4 ∧ a4 < ln w a2 then
   if (gv w (gv w a0 0) (w32 (a1 + a4))) = (gv w a2 a4) then
    (some (.inl (20, [some (rV a0), some (iV a1), some (rV a2), some (iV a3), some (iV (w32 (a4 + 1)))], [], w)))
   else
   some (.inr (some (iV 0), w)) else none else none else none)
  else
  some (.inr (some (iV 1), w)) := by
  rfl
set_option maxRecDepth 100000 in
theorem eX5_leafStart_0 (C : sC) (w : sW) (a0 a1 : Int) : sg C mX5_leafStart 2000 0 [some (rV a0), some (iV a1), none, none] [] w =
  some (.inl (4, [some (rV a0), some (iV a1), some (iV 0), some (iV 0)], [], w)) := by
  rfl
set_option maxRecDepth 100000 in
theorem eX5_leafStart_4 (C : sC) (w : sW) (a0 a1 a2 a3 : Int) : sg C mX5_leafStart 2000 4 [some (rV a0), some (iV a1), some (iV a2), some (iV a3)] [] w =
  if a3 < a1 then
   (if kd w a0 = 5 then
   if a3 < (gv w a0 3) then
    (if kd w a0 = 5 then
    if kd w (gv w a0 1) = 20 ∧ 0 ≤ a3 ∧ a3 < ln w (gv w a0 1) then
    some (.inl (4, [some (rV a0), some (iV a1), some (iV (w32 (a2 + (gv w (gv w a0 1) a3)))), some (iV (w32 (a3 + 1)))], [], w)) else none else none)
   else
   some (.inr (some (iV a2), w)) else none)
  else
  some (.inr (some (iV a2), w)) := by
  rfl
set_option maxRecDepth 100000 in
theorem eX5_leafWith_0 (C : sC) (w : sW) (a0 a1 : Int) : sg C mX5_leafWith 2000 0 [some (rV a0), some (iV a1), none, none, none] [] w =
  if kd w a0 = 5 then
  if kd w a0 = 5 then
  if kd w a0 = 5 then
  if kd w (gv w a0 1) = 20 ∧ 0 ≤ (if (w32 ((gv w a0 3) - 1)) < 0 then 0 else (w32 ((gv w a0 3) - 1))) ∧ (if (w32 ((gv w a0 3) - 1)) < 0 then 0 else (w32 ((gv w a0 3) - 1))) < ln w (gv w a0 1) then
  if a1 < (w32 ((gv w a0 2) - (gv w (gv w a0 1) (if (w32 ((gv w a0 3) - 1)) < 0 then 0 else (w32 ((gv w a0 3) - 1)))))) then
   (some (.inl (33, [some (rV a0), some (iV a1), some (iV (if (w32 ((gv w a0 3) - 1)) < 0 then 0 else (w32 ((gv w a0 3) - 1)))), some (iV 0), some (iV 0)], [], w)))
  else
  some (.inr (some (iV (if (w32 ((gv w a0 3) - 1)) < 0 then 0 else (w32 ((gv w a0 3) - 1)))), w)) else none else none else none else none := by
  rfl
set_option maxRecDepth 100000 in
theorem eX5_leafWith_33 (C : sC) (w : sW) (a0 a1 a2 a3 a4 : Int) : sg C mX5_leafWith 2000 33 [some (rV a0), some (iV a1), some (iV a2), some (iV a3), some (iV a4)] [] w =
  if a4 < a2 then
   (if kd w a0 = 5 then
   if kd w (gv w a0 1) = 20 ∧ 0 ≤ a4 ∧ a4 < ln w (gv w a0 1) then
   if a1 < (w32 (a3 + (gv w (gv w a0 1) a4))) then
    (some (.inr (some (iV a4), w)))
   else
   some (.inl (33, [some (rV a0), some (iV a1), some (iV a2), some (iV (w32 (a3 + (gv w (gv w a0 1) a4)))), some (iV (w32 (a4 + 1)))], [], w)) else none else none)
  else
  some (.inr (some (iV a2), w)) := by
  rfl
set_option maxRecDepth 100000 in
theorem eX5_insert_0 (C : sC) (w : sW) (a0 a1 a2 a3 : Int) : sg C mX5_insert 2000 0 [some (rV a0), some (iV a1), some (iV a2), some (iV a3), none] [] w =
  if kd w a0 = 5 then
  bI (C 32 w [rV a0, iV a1]) (fun x2 w1 =>
  if x2 = 0 then
   (some (.inr (none, w1)))
  else
  if kd w1 a0 = 5 then
  if (gv w1 a0 2) < 600 then
   (if kd w1 a0 = 5 then
   if (gv w1 a0 3) = 0 then
    (if kd w1 a0 = 5 then
    if (kd w1 (gv w1 a0 1) = 20 ∧ 32 ≤ (gv w1 a0 1)) ∧ 0 ≤ (0 : Int) ∧ (0 : Int) < ln w1 (gv w1 a0 1) then
    wl (sv w1 (gv w1 a0 1) 0 0) (fun w3 =>
    if kd w3 a0 = 5 then
    wl (sv w3 a0 3 1) (fun w4 =>
    if a1 = 0 then
     (some (.inl (50, [some (rV a0), some (iV a1), some (iV a2), some (iV a3), none], [iV 0, rV a0], w4)))
    else
    some (.inl (50, [some (rV a0), some (iV a1), some (iV a2), some (iV a3), none], [iV (w32 (a1 - 1)), rV a0], w4))) else none) else none else none)
   else
   if a1 = 0 then
    (some (.inl (50, [some (rV a0), some (iV a1), some (iV a2), some (iV a3), none], [iV 0, rV a0], w1)))
   else
   some (.inl (50, [some (rV a0), some (iV a1), some (iV a2), some (iV a3), none], [iV (w32 (a1 - 1)), rV a0], w1)) else none)
  else
  some (.inr (none, w1)) else none) else none := by
  rfl
set_option maxRecDepth 100000 in
theorem eX5_insert_50 (C : sC) (w : sW) (a0 a1 a2 a3 b0 b1 : Int) : sg C mX5_insert 2000 50 [some (rV a0), some (iV a1), some (iV a2), some (iV a3), none] [iV b0, rV b1] w =
  if kd w b1 = 5 then
  bI (C 47 w [rV b1, iV b0]) (fun x2 w1 =>
  if kd w1 a0 = 5 then
  if kd w1 (gv w1 a0 1) = 20 ∧ 0 ≤ x2 ∧ x2 < ln w1 (gv w1 a0 1) then
  if (kd w1 (gv w1 a0 1) = 20 ∧ 32 ≤ (gv w1 a0 1)) ∧ 0 ≤ x2 ∧ x2 < ln w1 (gv w1 a0 1) then
  wl (sv w1 (gv w1 a0 1) x2 (w32 ((gv w1 (gv w1 a0 1) x2) + 1))) (fun w3 =>
  if kd w3 a0 = 5 then
  bN (C 49 w3 [rV a0, iV x2, iV a3]) (fun w4 =>
  if kd w4 a0 = 5 then
  if kd w4 a0 = 5 then
  if kd w4 a0 = 5 then
  if ((kd w4 (gv w4 a0 0) = 20 ∧ kd w4 (gv w4 a0 0) = 20) ∨ (kd w4 (gv w4 a0 0) = 21 ∧ kd w4 (gv w4 a0 0) = 21)) ∧ 32 ≤ (gv w4 a0 0) ∧ 32 ≤ (gv w4 a0 0) ∧ 0 ≤ a1 ∧ 0 ≤ (w32 (a1 + 1)) ∧ 0 ≤ (w32 ((gv w4 a0 2) - a1)) ∧ a1 + (w32 ((gv w4 a0 2) - a1)) ≤ ln w4 (gv w4 a0 0) ∧ (w32 (a1 + 1)) + (w32 ((gv w4 a0 2) - a1)) ≤ ln w4 (gv w4 a0 0) then
  wl (cp w4 (gv w4 a0 0) a1 (gv w4 a0 0) (w32 (a1 + 1)) (w32 ((gv w4 a0 2) - a1))) (fun w5 =>
  if kd w5 a0 = 5 then
  if -128 ≤ a2 ∧ a2 < 128 then
  if ((kd w5 (gv w5 a0 0) = 21 ∧ -128 ≤ a2 ∧ a2 < 128) ∨ (kd w5 (gv w5 a0 0) = 23 ∧ (a2 = 0 ∨ a2 = 1))) ∧ 0 ≤ a1 ∧ a1 < ln w5 (gv w5 a0 0) then
  wl (sv w5 (gv w5 a0 0) a1 a2) (fun w6 =>
  if kd w6 a0 = 5 then
  if kd w6 a0 = 5 then
  wl (sv w6 a0 2 (w32 ((gv w6 a0 2) + 1))) (fun w7 =>
  some (.inr (none, w7))) else none else none) else none else none else none) else none else none else none else none) else none) else none else none else none) else none := by
  rfl
set_option maxRecDepth 100000 in
theorem eX5_halveIfTooBig_0 (C : sC) (w : sW) (a0 a1 a2 : Int) : sg C mX5_halveIfTooBig 2000 0 [some (rV a0), some (iV a1), some (iV a2), none] [] w =
  if kd w a0 = 5 then
  if kd w (gv w a0 1) = 20 ∧ 0 ≤ a1 ∧ a1 < ln w (gv w a0 1) then
  if (w32 (2 * a2)) < (gv w (gv w a0 1) a1) then
   (if kd w a0 = 5 then
   if (gv w a0 3) < 152 then
    (if kd w a0 = 5 then
    if kd w a0 = 5 then
    if kd w a0 = 5 then
    if ((kd w (gv w a0 1) = 20 ∧ kd w (gv w a0 1) = 20) ∨ (kd w (gv w a0 1) = 21 ∧ kd w (gv w a0 1) = 21)) ∧ 32 ≤ (gv w a0 1) ∧ 32 ≤ (gv w a0 1) ∧ 0 ≤ (w32 (a1 + 1)) ∧ 0 ≤ (w32 (a1 + 2)) ∧ 0 ≤ (w32 ((w32 ((gv w a0 3) - a1)) - 1)) ∧ (w32 (a1 + 1)) + (w32 ((w32 ((gv w a0 3) - a1)) - 1)) ≤ ln w (gv w a0 1) ∧ (w32 (a1 + 2)) + (w32 ((w32 ((gv w a0 3) - a1)) - 1)) ≤ ln w (gv w a0 1) then
    wl (cp w (gv w a0 1) (w32 (a1 + 1)) (gv w a0 1) (w32 (a1 + 2)) (w32 ((w32 ((gv w a0 3) - a1)) - 1))) (fun w1 =>
    if kd w1 a0 = 5 then
    if (2 : Int) = 0 then none else
    if (kd w1 (gv w1 a0 1) = 20 ∧ 32 ≤ (gv w1 a0 1)) ∧ 0 ≤ a1 ∧ a1 < ln w1 (gv w1 a0 1) then
    wl (sv w1 (gv w1 a0 1) a1 (w32 ((gv w (gv w a0 1) a1) - (w32 (Int.tdiv (gv w (gv w a0 1) a1) 2))))) (fun w2 =>
    if kd w2 a0 = 5 then
    if (2 : Int) = 0 then none else
    if (kd w2 (gv w2 a0 1) = 20 ∧ 32 ≤ (gv w2 a0 1)) ∧ 0 ≤ (w32 (a1 + 1)) ∧ (w32 (a1 + 1)) < ln w2 (gv w2 a0 1) then
    wl (sv w2 (gv w2 a0 1) (w32 (a1 + 1)) (w32 (Int.tdiv (gv w (gv w a0 1) a1) 2))) (fun w3 =>
    if kd w3 a0 = 5 then
    if kd w3 a0 = 5 then
    wl (sv w3 a0 3 (w32 ((gv w3 a0 3) + 1))) (fun w4 =>
    some (.inr (none, w4))) else none else none) else none else none) else none else none) else none else none else none else none)
   else
   some (.inr (none, w)) else none)
  else
  some (.inr (none, w)) else none else none := by
  rfl
set_option maxRecDepth 100000 in
theorem eX5_remove_0 (C : sC) (w : sW) (a0 a1 a2 a3 : Int) : sg C mX5_remove 2000 0 [some (rV a0), some (iV a1), some (iV a2), some (iV a3), none, none] [] w =
  if kd w a0 = 5 then
  bI (C 33 w [rV a0, iV a1, iV a2]) (fun x2 w1 =>
  if x2 = 0 then
   (some (.inr (none, w1)))
  else
  if kd w1 a0 = 5 then
  if kd w1 a0 = 5 then
  if kd w1 a0 = 5 then
  if ((kd w1 (gv w1 a0 0) = 20 ∧ kd w1 (gv w1 a0 0) = 20) ∨ (kd w1 (gv w1 a0 0) = 21 ∧ kd w1 (gv w1 a0 0) = 21)) ∧ 32 ≤ (gv w1 a0 0) ∧ 32 ≤ (gv w1 a0 0) ∧ 0 ≤ (w32 (a1 + a2)) ∧ 0 ≤ a1 ∧ 0 ≤ (w32 ((w32 ((gv w1 a0 2) - a1)) - a2)) ∧ (w32 (a1 + a2)) + (w32 ((w32 ((gv w1 a0 2) - a1)) - a2)) ≤ ln w1 (gv w1 a0 0) ∧ a1 + (w32 ((w32 ((gv w1 a0 2) - a1)) - a2)) ≤ ln w1 (gv w1 a0 0) then
  wl (cp w1 (gv w1 a0 0) (w32 (a1 + a2)) (gv w1 a0 0) a1 (w32 ((w32 ((gv w1 a0 2) - a1)) - a2))) (fun w3 =>
  some (.inl (36, [some (rV a0), some (iV a1), some (iV a2), some (iV a3), some (iV 0), none], [], w3))) else none else none else none else none) else none := by
  rfl
set_option maxRecDepth 100000 in
theorem eX5_remove_36 (C : sC) (w : sW) (a0 a1 a2 a3 a4 : Int) : sg C mX5_remove 2000 36 [some (rV a0), some (iV a1), some (iV a2), some (iV a3), some (iV a4), none] [] w =
  if a4 < a2 then
   (if kd w a0 = 5 then
   bI (C 47 w [rV a0, iV a1]) (fun x2 w1 =>
   if kd w1 a0 = 5 then
   if kd w1 (gv w1 a0 1) = 20 ∧ 0 ≤ x2 ∧ x2 < ln w1 (gv w1 a0 1) then
   if (kd w1 (gv w1 a0 1) = 20 ∧ 32 ≤ (gv w1 a0 1)) ∧ 0 ≤ x2 ∧ x2 < ln w1 (gv w1 a0 1) then
   wl (sv w1 (gv w1 a0 1) x2 (w32 ((gv w1 (gv w1 a0 1) x2) - 1))) (fun w3 =>
   if kd w3 a0 = 5 then
   if kd w3 a0 = 5 then
   wl (sv w3 a0 2 (w32 ((gv w3 a0 2) - 1))) (fun w4 =>
   if kd w4 a0 = 5 then
   if kd w4 (gv w4 a0 1) = 20 ∧ 0 ≤ x2 ∧ x2 < ln w4 (gv w4 a0 1) then
   if (gv w4 (gv w4 a0 1) x2) < a3 then
    (if kd w4 a0 = 5 then
    if 1 < (gv w4 a0 3) then
     (if kd w4 a0 = 5 then
     if kd w4 a0 = 5 then
     bN (C 51 w4 [rV a0, iV (if (w32 ((gv w4 a0 3) - 2)) < x2 then (w32 ((gv w4 a0 3) - 2)) else x2), iV a3]) (fun w5 =>
     some (.inl (36, [some (rV a0), some (iV a1), some (iV a2), some (iV a3), some (iV (w32 (a4 + 1))), none], [], w5))) else none else none)
    else
    some (.inl (36, [some (rV a0), some (iV a1), some (iV a2), some (iV a3), some (iV (w32 (a4 + 1))), none], [], w4)) else none)
   else
   some (.inl (36, [some (rV a0), some (iV a1), some (iV a2), some (iV a3), some (iV (w32 (a4 + 1))), none], [], w4)) else none else none) else none else none) else none else none else none) else none)
  else
  if kd w a0 = 5 then
  if (gv w a0 2) = 0 then
   (if kd w a0 = 5 then
   wl (sv w a0 3 0) (fun w6 =>
   some (.inr (none, w6))) else none)
  else
  some (.inr (none, w)) else none := by
  rfl
set_option maxRecDepth 100000 in
theorem eX5_mergeWithNext_0 (C : sC) (w : sW) (a0 a1 a2 : Int) : sg C mX5_mergeWithNext 2000 0 [some (rV a0), some (iV a1), some (iV a2)] [] w =
  if kd w a0 = 5 then
  if kd w (gv w a0 1) = 20 ∧ 0 ≤ a1 ∧ a1 < ln w (gv w a0 1) then
  if kd w a0 = 5 then
  if kd w (gv w a0 1) = 20 ∧ 0 ≤ (w32 (a1 + 1)) ∧ (w32 (a1 + 1)) < ln w (gv w a0 1) then
  if (kd w (gv w a0 1) = 20 ∧ 32 ≤ (gv w a0 1)) ∧ 0 ≤ a1 ∧ a1 < ln w (gv w a0 1) then
  wl (sv w (gv w a0 1) a1 (w32 ((gv w (gv w a0 1) a1) + (gv w (gv w a0 1) (w32 (a1 + 1)))))) (fun w1 =>
  if kd w1 a0 = 5 then
  if kd w1 a0 = 5 then
  if kd w1 a0 = 5 then
  if ((kd w1 (gv w1 a0 1) = 20 ∧ kd w1 (gv w1 a0 1) = 20) ∨ (kd w1 (gv w1 a0 1) = 21 ∧ kd w1 (gv w1 a0 1) = 21)) ∧ 32 ≤ (gv w1 a0 1) ∧ 32 ≤ (gv w1 a0 1) ∧ 0 ≤ (w32 (a1 + 2)) ∧ 0 ≤ (w32 (a1 + 1)) ∧ 0 ≤ (w32 ((w32 ((gv w1 a0 3) - a1)) - 2)) ∧ (w32 (a1 + 2)) + (w32 ((w32 ((gv w1 a0 3) - a1)) - 2)) ≤ ln w1 (gv w1 a0 1) ∧ (w32 (a1 + 1)) + (w32 ((w32 ((gv w1 a0 3) - a1)) - 2)) ≤ ln w1 (gv w1 a0 1) then
  wl (cp w1 (gv w1 a0 1) (w32 (a1 + 2)) (gv w1 a0 1) (w32 (a1 + 1)) (w32 ((w32 ((gv w1 a0 3) - a1)) - 2))) (fun w2 =>
  if kd w2 a0 = 5 then
  if kd w2 a0 = 5 then
  wl (sv w2 a0 3 (w32 ((gv w2 a0 3) - 1))) (fun w3 =>
  if kd w3 a0 = 5 then
  bN (C 49 w3 [rV a0, iV a1, iV a2]) (fun w4 =>
  some (.inr (none, w4))) else none) else none else none) else none else none else none else none) else none else none else none else none else none := by
  rfl
set_option maxRecDepth 100000 in
theorem eX5_turnOver_0 (C : sC) (w : sW) (a0 a1 a2 : Int) : sg C mX5_turnOver 2000 0 [some (rV a0), some (iV a1), some (iV a2), none] [] w =
  if kd w a0 = 5 then
  bI (C 33 w [rV a0, iV a1, iV a2]) (fun x2 w1 =>
  if x2 = 0 then
   (some (.inr (none, w1)))
  else
  some (.inl (12, [some (rV a0), some (iV a1), some (iV a2), some (iV a1)], [], w1))) else none := by
  rfl
set_option maxRecDepth 100000 in
theorem eX5_turnOver_12 (C : sC) (w : sW) (a0 a1 a2 a3 : Int) : sg C mX5_turnOver 2000 12 [some (rV a0), some (iV a1), some (iV a2), some (iV a3)] [] w =
  if a3 < (w32 (a1 + a2)) then
   (if kd w a0 = 5 then
   if kd w a0 = 5 then
   if (kd w (gv w a0 0) = 21 ∨ kd w (gv w a0 0) = 23) ∧ 0 ≤ a3 ∧ a3 < ln w (gv w a0 0) then
   if -128 ≤ (w32 (1 - (gv w (gv w a0 0) a3))) ∧ (w32 (1 - (gv w (gv w a0 0) a3))) < 128 then
   if ((kd w (gv w a0 0) = 21 ∧ -128 ≤ (w32 (1 - (gv w (gv w a0 0) a3))) ∧ (w32 (1 - (gv w (gv w a0 0) a3))) < 128) ∨ (kd w (gv w a0 0) = 23 ∧ ((w32 (1 - (gv w (gv w a0 0) a3))) = 0 ∨ (w32 (1 - (gv w (gv w a0 0) a3))) = 1))) ∧ 0 ≤ a3 ∧ a3 < ln w (gv w a0 0) then
   wl (sv w (gv w a0 0) a3 (w32 (1 - (gv w (gv w a0 0) a3)))) (fun w1 =>
   some (.inl (12, [some (rV a0), some (iV a1), some (iV a2), some (iV (w32 (a3 + 1)))], [], w1))) else none else none else none else none else none)
  else
  some (.inr (none, w)) := by
  rfl
set_option maxRecDepth 100000 in
theorem eX5_append_0 (C : sC) (w : sW) (a0 a1 a2 a3 : Int) : sg C mX5_append 2000 0 [some (rV a0), some (rV a1), some (iV a2), some (iV a3), none] [] w =
  some (.inl (3, [some (rV a0), some (rV a1), none, some (iV a3), some (iV a2)], [], w)) := by
  rfl
set_option maxRecDepth 100000 in
theorem eX5_append_3 (C : sC) (w : sW) (a0 a1 a3 a4 : Int) : sg C mX5_append 2000 3 [some (rV a0), some (rV a1), none, some (iV a3), some (iV a4)] [] w =
  if a4 < 0 then
   (some (.inr (none, w)))
  else
  if kd w a1 = 5 then
  if a4 < (gv w a1 2) then
   (if kd w a0 = 5 then
   if kd w a1 = 5 then
   if (kd w (gv w a1 0) = 21 ∨ kd w (gv w a1 0) = 23) ∧ 0 ≤ a4 ∧ a4 < ln w (gv w a1 0) then
   if kd w a0 = 5 then
   bN (C 48 w [rV a0, iV (gv w a0 2), iV (gv w (gv w a1 0) a4), iV a3]) (fun w1 =>
   some (.inl (3, [some (rV a0), some (rV a1), none, some (iV a3), some (iV (w32 (a4 + 1)))], [], w1))) else none else none else none else none)
  else
  some (.inr (none, w)) else none := by
  rfl
set_option maxRecDepth 100000 in
theorem eX6_init_0 (C : sC) (w : sW) (a0 : Int) : sg C mX6_init 2000 0 [some (rV a0)] [] w =
  if kd w a0 = 6 then
  if 0 ≤ (200 : Int) ∧ (200 : Int) ≤ 100000 then
  wl (al w 21 200 (Int.toNat 200)) (fun w1 =>
  if kd w1 a0 = 6 then
  wl (sv w1 a0 0 (nx w)) (fun w2 =>
  some (.inr (none, w2))) else none) else none else none := by
  rfl
set_option maxRecDepth 100000 in
theorem eX6_copyFrom_0 (C : sC) (w : sW) (a0 a1 : Int) : sg C mX6_copyFrom 2000 0 [some (rV a0), some (rV a1)] [] w =
  if kd w a1 = 6 then
  if kd w a0 = 6 then
  if kd w a1 = 6 then
  if ((kd w (gv w a1 0) = 20 ∧ kd w (gv w a0 0) = 20) ∨ (kd w (gv w a1 0) = 21 ∧ kd w (gv w a0 0) = 21)) ∧ 32 ≤ (gv w a1 0) ∧ 32 ≤ (gv w a0 0) ∧ 0 ≤ (0 : Int) ∧ 0 ≤ (0 : Int) ∧ 0 ≤ (gv w a1 1) ∧ 0 + (gv w a1 1) ≤ ln w (gv w a1 0) ∧ 0 + (gv w a1 1) ≤ ln w (gv w a0 0) then
  wl (cp w (gv w a1 0) 0 (gv w a0 0) 0 (gv w a1 1)) (fun w1 =>
  if kd w1 a1 = 6 then
  if kd w1 a0 = 6 then
  wl (sv w1 a0 1 (gv w1 a1 1)) (fun w2 =>
  some (.inr (none, w2))) else none else none) else none else none else none else none := by
  rfl
set_option maxRecDepth 100000 in
theorem eX6_signAt_0 (C : sC) (w : sW) (a0 a1 : Int) : sg C mX6_signAt 2000 0 [some (rV a0), some (iV a1)] [] w =
  if a1 < 0 then
   (some (.inr (some (iV (-1)), w)))
  else
  if kd w a0 = 6 then
  if a1 < (gv w a0 1) then
   (if kd w a0 = 6 then
   if (kd w (gv w a0 0) = 21 ∨ kd w (gv w a0 0) = 23) ∧ 0 ≤ a1 ∧ a1 < ln w (gv w a0 0) then
   some (.inr (some (iV (gv w (gv w a0 0) a1)), w)) else none else none)
  else
  some (.inr (some (iV (-1)), w)) else none := by
  rfl
set_option maxRecDepth 100000 in
theorem eX6_hasRange_0 (C : sC) (w : sW) (a0 a1 a2 : Int) : sg C mX6_hasRange 2000 0 [some (rV a0), some (iV a1), some (iV a2)] [] w =
  if a1 < 0 then
   (some (.inr (some (iV 0), w)))
  else
  if a2 < 0 then
   (some (.inr (some (iV 0), w)))
  else
  if kd w a0 = 6 then
  if (w32 ((gv w a0 1) - a2)) < a1 then
   (some (.inr (some (iV 0), w)))
  else
  some (.inr (some (iV 1), w)) else none := by
  rfl
set_option maxRecDepth 100000 in
theorem eX6_countIn_0 (C : sC) (w : sW) (a0 a1 a2 a3 : Int) : sg C mX6_countIn 2000 0 [some (rV a0), some (iV a1), some (iV a2), some (iV a3), none, none] [] w =
  some (.inl (10, [some (rV a0), none, some (iV a2), some (iV a3), some (iV 0), some (iV (if a1 < 0 then 0 else a1))], [], w)) := by
  rfl
set_option maxRecDepth 100000 in
theorem eX6_countIn_10 (C : sC) (w : sW) (a0 a2 a3 a4 a5 : Int) : sg C mX6_countIn 2000 10 [some (rV a0), none, some (iV a2), some (iV a3), some (iV a4), some (iV a5)] [] w =
  if a5 < a2 then
   (if kd w a0 = 6 then
   if a5 < (gv w a0 1) then
    (if kd w a0 = 6 then
    if (kd w (gv w a0 0) = 21 ∨ kd w (gv w a0 0) = 23) ∧ 0 ≤ a5 ∧ a5 < ln w (gv w a0 0) then
    if (gv w (gv w a0 0) a5) = a3 then
     (some (.inl (10, [some (rV a0), none, some (iV a2), some (iV a3), some (iV (w32 (a4 + 1))), some (iV (w32 (a5 + 1)))], [], w)))
    else
    some (.inl (10, [some (rV a0), none, some (iV a2), some (iV a3), some (iV a4), some (iV (w32 (a5 + 1)))], [], w)) else none else none)
   else
   some (.inr (some (iV a4), w)) else none)
  else
  some (.inr (some (iV a4), w)) := by
  rfl
set_option maxRecDepth 100000 in
theorem eX6_placeOf_0 (C : sC) (w : sW) (a0 a1 a2 : Int) : sg C mX6_placeOf 2000 0 [some (rV a0), some (iV a1), some (iV a2), none, none] [] w =
  some (.inl (5, [some (rV a0), some (iV a1), some (iV a2), some (iV 0), some (iV 0)], [], w)) := by
  rfl
set_option maxRecDepth 100000 in
theorem eX6_placeOf_5 (C : sC) (w : sW) (a0 a1 a2 a3 a4 : Int) : sg C mX6_placeOf 2000 5 [some (rV a0), some (iV a1), some (iV a2), some (iV a3), some (iV a4)] [] w =
  if kd w a0 = 6 then
  if a4 < (gv w a0 1) then
   (if kd w a0 = 6 then
   if (kd w (gv w a0 0) = 21 ∨ kd w (gv w a0 0) = 23) ∧ 0 ≤ a4 ∧ a4 < ln w (gv w a0 0) then
   if (gv w (gv w a0 0) a4) = a1 then
    (if a3 = a2 then
     (some (.inr (some (iV a4), w)))
    else
    some (.inl (5, [some (rV a0), some (iV a1), some (iV a2), some (iV (w32 (a3 + 1))), some (iV (w32 (a4 + 1)))], [], w)))
   else
   some (.inl (5, [some (rV a0), some (iV a1), some (iV a2), some (iV a3), some (iV (w32 (a4 + 1)))], [], w)) else none else none)
  else
  some (.inr (some (iV (-1)), w)) else none := by
  rfl
set_option maxRecDepth 100000 in
theorem eX6_leastOf_0 (C : sC) (w : sW) (a0 a1 a2 a3 : Int) : sg C mX6_leastOf 2000 0 [some (rV a0), some (iV a1), some (iV a2), some (iV a3), none, none] [] w =
  some (.inl (6, [some (rV a0), some (iV a1), some (iV a2), some (iV a3), some (iV 0), some (iV 0)], [], w)) := by
  rfl
set_option maxRecDepth 100000 in
theorem eX6_leastOf_6 (C : sC) (w : sW) (a0 a1 a2 a3 a4 a5 : Int) : sg C mX6_leastOf 2000 6 [some (rV a0), some (iV a1), some (iV a2), some (iV a3), some (iV a4), some (iV a5)] [] w =
  if a5 < 8 then
   (if kd w a0 = 6 then
   bI (C 58 w [rV a0, iV a1, iV a2, iV a5]) (fun x2 w1 =>
   if a3 < (w32 (a4 + x2)) then
    (some (.inr (some (iV a5), w1)))
   else
   some (.inl (6, [some (rV a0), some (iV a1), some (iV a2), some (iV a3), some (iV (w32 (a4 + x2))), some (iV (w32 (a5 + 1)))], [], w1))) else none)
  else
  some (.inr (some (iV (-1)), w)) := by
  rfl
set_option maxRecDepth 100000 in
theorem eX6_nodeBit_0 (C : sC) (w : sW) (a0 a1 a2 : Int) : sg C mX6_nodeBit 2000 0 [some (rV a0), some (iV a1), some (iV a2), none, none, none, none] [] w =
  if a1 = 0 then
   (some (.inl (18, [some (rV a0), some (iV a1), some (iV a2), none, none, none, none], [iV 0], w)))
  else
  if a1 < 3 then
   (some (.inl (18, [some (rV a0), some (iV a1), some (iV a2), none, none, none, none], [iV 1], w)))
  else
  some (.inl (18, [some (rV a0), some (iV a1), some (iV a2), none, none, none, none], [iV 3], w)) := by
  rfl
set_option maxRecDepth 100000 in
theorem eX6_nodeBit_18 (C : sC) (w : sW) (a0 a1 a2 b0 : Int) : sg C mX6_nodeBit 2000 18 [some (rV a0), some (iV a1), some (iV a2), none, none, none, none] [iV b0] w =
  if a1 = 0 then
   (some (.inl (45, [some (rV a0), some (iV a1), some (iV a2), some (iV b0), some (iV 2), some (iV 0), some (iV 0)], [], w)))
  else
  if a1 < 3 then
   (some (.inl (45, [some (rV a0), some (iV a1), some (iV a2), some (iV b0), some (iV 1), some (iV 0), some (iV 0)], [], w)))
  else
  some (.inl (45, [some (rV a0), some (iV a1), some (iV a2), some (iV b0), some (iV 0), some (iV 0), some (iV 0)], [], w)) := by
  rfl
set_option maxRecDepth 100000 in
theorem eX6_nodeBit_45 (C : sC) (w : sW) (a0 a1 a2 a3 a4 a5 a6 : Int) : sg C mX6_nodeBit 2000 45 [some (rV a0), some (iV a1), some (iV a2), some (iV a3), some (iV a4), some (iV a5), some (iV a6)] [] w =
  if kd w a0 = 6 then
  if a6 < (gv w a0 1) then
   (if kd w a0 = 6 then
   if (kd w (gv w a0 0) = 21 ∨ kd w (gv w a0 0) = 23) ∧ 0 ≤ a6 ∧ a6 < ln w (gv w a0 0) then
   if (f_ishr (gv w (gv w a0 0) a6) (w32 (a4 + 1))) = (w32 (a1 - a3)) then
    (if a5 = a2 then
     (if kd w a0 = 6 then
     if (kd w (gv w a0 0) = 21 ∨ kd w (gv w a0 0) = 23) ∧ 0 ≤ a6 ∧ a6 < ln w (gv w a0 0) then
     some (.inr (some (iV (f_iand (f_ishr (gv w (gv w a0 0) a6) a4) 1)), w)) else none else none)
    else
    some (.inl (45, [some (rV a0), some (iV a1), some (iV a2), some (iV a3), some (iV a4), some (iV (w32 (a5 + 1))), some (iV (w32 (a6 + 1)))], [], w)))
   else
   some (.inl (45, [some (rV a0), some (iV a1), some (iV a2), some (iV a3), some (iV a4), some (iV a5), some (iV (w32 (a6 + 1)))], [], w)) else none else none)
  else
  some (.inr (some (iV (-1)), w)) else none := by
  rfl
set_option maxRecDepth 100000 in
theorem eX6_insert_0 (C : sC) (w : sW) (a0 a1 a2 : Int) : sg C mX6_insert 2000 0 [some (rV a0), some (iV a1), some (iV a2)] [] w =
  if a1 < 0 then
   (some (.inr (none, w)))
  else
  if kd w a0 = 6 then
  if (gv w a0 1) < a1 then
   (some (.inr (none, w)))
  else
  if kd w a0 = 6 then
  if (gv w a0 1) < 200 then
   (if kd w a0 = 6 then
   if kd w a0 = 6 then
   if kd w a0 = 6 then
   if ((kd w (gv w a0 0) = 20 ∧ kd w (gv w a0 0) = 20) ∨ (kd w (gv w a0 0) = 21 ∧ kd w (gv w a0 0) = 21)) ∧ 32 ≤ (gv w a0 0) ∧ 32 ≤ (gv w a0 0) ∧ 0 ≤ a1 ∧ 0 ≤ (w32 (a1 + 1)) ∧ 0 ≤ (w32 ((gv w a0 1) - a1)) ∧ a1 + (w32 ((gv w a0 1) - a1)) ≤ ln w (gv w a0 0) ∧ (w32 (a1 + 1)) + (w32 ((gv w a0 1) - a1)) ≤ ln w (gv w a0 0) then
   wl (cp w (gv w a0 0) a1 (gv w a0 0) (w32 (a1 + 1)) (w32 ((gv w a0 1) - a1))) (fun w1 =>
   if kd w1 a0 = 6 then
   if -128 ≤ a2 ∧ a2 < 128 then
   if ((kd w1 (gv w1 a0 0) = 21 ∧ -128 ≤ a2 ∧ a2 < 128) ∨ (kd w1 (gv w1 a0 0) = 23 ∧ (a2 = 0 ∨ a2 = 1))) ∧ 0 ≤ a1 ∧ a1 < ln w1 (gv w1 a0 0) then
   wl (sv w1 (gv w1 a0 0) a1 a2) (fun w2 =>
   if kd w2 a0 = 6 then
   if kd w2 a0 = 6 then
   wl (sv w2 a0 1 (w32 ((gv w2 a0 1) + 1))) (fun w3 =>
   some (.inr (none, w3))) else none else none) else none else none else none) else none else none else none else none)
  else
  some (.inr (none, w)) else none else none := by
  rfl
set_option maxRecDepth 100000 in
theorem eX6_remove_0 (C : sC) (w : sW) (a0 a1 a2 : Int) : sg C mX6_remove 2000 0 [some (rV a0), some (iV a1), some (iV a2)] [] w =
  if kd w a0 = 6 then
  bI (C 57 w [rV a0, iV a1, iV a2]) (fun x2 w1 =>
  if x2 = 0 then
   (some (.inr (none, w1)))
  else
  if kd w1 a0 = 6 then
  if kd w1 a0 = 6 then
  if kd w1 a0 = 6 then
  if ((kd w1 (gv w1 a0 0) = 20 ∧ kd w1 (gv w1 a0 0) = 20) ∨ (kd w1 (gv w1 a0 0) = 21 ∧ kd w1 (gv w1 a0 0) = 21)) ∧ 32 ≤ (gv w1 a0 0) ∧ 32 ≤ (gv w1 a0 0) ∧ 0 ≤ (w32 (a1 + a2)) ∧ 0 ≤ a1 ∧ 0 ≤ (w32 ((w32 ((gv w1 a0 1) - a1)) - a2)) ∧ (w32 (a1 + a2)) + (w32 ((w32 ((gv w1 a0 1) - a1)) - a2)) ≤ ln w1 (gv w1 a0 0) ∧ a1 + (w32 ((w32 ((gv w1 a0 1) - a1)) - a2)) ≤ ln w1 (gv w1 a0 0) then
  wl (cp w1 (gv w1 a0 0) (w32 (a1 + a2)) (gv w1 a0 0) a1 (w32 ((w32 ((gv w1 a0 1) - a1)) - a2))) (fun w3 =>
  if kd w3 a0 = 6 then
  if kd w3 a0 = 6 then
  wl (sv w3 a0 1 (w32 ((gv w3 a0 1) - a2))) (fun w4 =>
  some (.inr (none, w4))) else none else none) else none else none else none else none) else none := by
  rfl
set_option maxRecDepth 100000 in
theorem eX7_init_0 (C : sC) (w : sW) (a0 : Int) : sg C mX7_init 2000 0 [some (rV a0)] [] w =
  if kd w a0 = 7 then
  if 0 ≤ (40 : Int) ∧ (40 : Int) ≤ 100000 then
  wl (al w 27 40 (Int.toNat 40)) (fun w1 =>
  if kd w1 a0 = 7 then
  wl (sv w1 a0 0 (nx w)) (fun w2 =>
  if 0 ≤ (40 : Int) ∧ (40 : Int) ≤ 100000 then
  wl (al w2 20 40 (Int.toNat 40)) (fun w3 =>
  if kd w3 a0 = 7 then
  wl (sv w3 a0 1 (nx w2)) (fun w4 =>
  if 0 ≤ (40 : Int) ∧ (40 : Int) ≤ 100000 then
  wl (al w4 20 40 (Int.toNat 40)) (fun w5 =>
  if kd w5 a0 = 7 then
  wl (sv w5 a0 2 (nx w4)) (fun w6 =>
  if 0 ≤ (40 : Int) ∧ (40 : Int) ≤ 100000 then
  wl (al w6 23 40 (Int.toNat 40)) (fun w7 =>
  if kd w7 a0 = 7 then
  wl (sv w7 a0 3 (nx w6)) (fun w8 =>
  some (.inr (none, w8))) else none) else none) else none) else none) else none) else none) else none) else none else none := by
  rfl
set_option maxRecDepth 100000 in
theorem eX7_clear_0 (C : sC) (w : sW) (a0 : Int) : sg C mX7_clear 2000 0 [some (rV a0)] [] w =
  if kd w a0 = 7 then
  wl (sv w a0 4 0) (fun w1 =>
  if kd w1 a0 = 7 then
  wl (sv w1 a0 5 0) (fun w2 =>
  some (.inr (none, w2))) else none) else none := by
  rfl
set_option maxRecDepth 100000 in
theorem eX7_copyFrom_0 (C : sC) (w : sW) (a0 a1 : Int) : sg C mX7_copyFrom 2000 0 [some (rV a0), some (rV a1), none] [] w =
  some (.inl (2, [some (rV a0), some (rV a1), some (iV 0)], [], w)) := by
  rfl
set_option maxRecDepth 100000 in
theorem eX7_copyFrom_2 (C : sC) (w : sW) (a0 a1 a2 : Int) : sg C mX7_copyFrom 2000 2 [some (rV a0), some (rV a1), some (iV a2)] [] w =
  if kd w a1 = 7 then
  if a2 < (gv w a1 4) then
   (if a2 < 40 then
    (if kd w a0 = 7 then
    if kd w a1 = 7 then
    if (24 ≤ kd w (gv w a1 0) ∧ kd w (gv w a1 0) ≤ 27) ∧ 0 ≤ a2 ∧ a2 < ln w (gv w a1 0) then
    if ((kd w (gv w a0 0) = 24 ∧ kd w (gv w (gv w a1 0) a2) = 5) ∨ (kd w (gv w a0 0) = 25 ∧ kd w (gv w (gv w a1 0) a2) = 8) ∨ (kd w (gv w a0 0) = 26 ∧ kd w (gv w (gv w a1 0) a2) = 7) ∨ (kd w (gv w a0 0) = 27 ∧ kd w (gv w (gv w a1 0) a2) = 30 ∧ 32 ≤ (gv w a0 0))) ∧ 0 ≤ a2 ∧ a2 < ln w (gv w a0 0) then
    wl (sv w (gv w a0 0) a2 (gv w (gv w a1 0) a2)) (fun w1 =>
    if kd w1 a0 = 7 then
    if kd w1 a1 = 7 then
    if kd w1 (gv w1 a1 1) = 20 ∧ 0 ≤ a2 ∧ a2 < ln w1 (gv w1 a1 1) then
    if (kd w1 (gv w1 a0 1) = 20 ∧ 32 ≤ (gv w1 a0 1)) ∧ 0 ≤ a2 ∧ a2 < ln w1 (gv w1 a0 1) then
    wl (sv w1 (gv w1 a0 1) a2 (gv w1 (gv w1 a1 1) a2)) (fun w2 =>
    if kd w2 a0 = 7 then
    if kd w2 a1 = 7 then
    if kd w2 (gv w2 a1 2) = 20 ∧ 0 ≤ a2 ∧ a2 < ln w2 (gv w2 a1 2) then
    if (kd w2 (gv w2 a0 2) = 20 ∧ 32 ≤ (gv w2 a0 2)) ∧ 0 ≤ a2 ∧ a2 < ln w2 (gv w2 a0 2) then
    wl (sv w2 (gv w2 a0 2) a2 (gv w2 (gv w2 a1 2) a2)) (fun w3 =>
    some (.inl (2, [some (rV a0), some (rV a1), some (iV (w32 (a2 + 1)))], [], w3))) else none else none else none else none) else none else none else none else none) else none else none else none else none)
   else
   if kd w a1 = 7 then
   if kd w a0 = 7 then
   wl (sv w a0 4 (gv w a1 4)) (fun w4 =>
   if kd w4 a1 = 7 then
   if kd w4 a0 = 7 then
   wl (sv w4 a0 5 (gv w4 a1 5)) (fun w5 =>
   some (.inr (none, w5))) else none else none) else none else none)
  else
  if kd w a1 = 7 then
  if kd w a0 = 7 then
  wl (sv w a0 4 (gv w a1 4)) (fun w6 =>
  if kd w6 a1 = 7 then
  if kd w6 a0 = 7 then
  wl (sv w6 a0 5 (gv w6 a1 5)) (fun w7 =>
  some (.inr (none, w7))) else none else none) else none else none else none := by
  rfl
set_option maxRecDepth 100000 in
theorem eX7_readAll_0 (C : sC) (w : sW) (a0 a1 a2 : Int) : sg C mX7_readAll 2000 0 [some (rV a0), some (rV a1), some (rV a2)] [] w =
  if kd w a0 = 7 then
  bN (C 65 w [rV a0]) (fun w1 =>
  if kd w1 a0 = 7 then
  bN (C 68 w1 [rV a0, rV a1, rV a2, iV 1]) (fun w2 =>
  if kd w2 a1 = 4 then
  bI (C 19 w2 [rV a1]) (fun x4 w3 =>
  if x4 = 0 then
   (some (.inr (none, w3)))
  else
  if kd w3 a1 = 4 then
  bN (C 20 w3 [rV a1, iV 1]) (fun w5 =>
  some (.inr (none, w5))) else none) else none) else none) else none := by
  rfl
set_option maxRecDepth 100000 in
theorem eX7_readCond_0 (C : sC) (w : sW) (a0 a1 a2 a3 : Int) : sg C mX7_readCond 2000 0 [some (rV a0), some (rV a1), some (rV a2), some (iV a3), none, none, none] [] w =
  if kd w a0 = 7 then
  bN (C 69 w [rV a0, rV a1, rV a2, iV a3]) (fun w1 =>
  some (.inl (13, [some (rV a0), some (rV a1), some (rV a2), some (iV a3), some (iV 0), some (iV 0), none], [], w1))) else none := by
  rfl
set_option maxRecDepth 100000 in
theorem eX7_readCond_13 (C : sC) (w : sW) (a0 a1 a2 a3 a4 a5 : Int) : sg C mX7_readCond 2000 13 [some (rV a0), some (rV a1), some (rV a2), some (iV a3), some (iV a4), some (iV a5), none] [] w =
  if a5 < 20 then
   (if kd w a1 = 4 then
   if (gv w a1 10) = 0 then
    (if kd w a1 = 4 then
    if (gv w a1 9) ≤ 23 ∧ (12 : Int) ≤ 23 then
    (if (gv w a1 9) = (12 : Int) then
     (if kd w a1 = 4 then
     if kd w a1 = 4 then
     bN (C 16 w [rV a1]) (fun w1 =>
     if (gv w a1 9) ≤ 23 ∧ (12 : Int) ≤ 23 then
     (if (gv w a1 9) = (12 : Int) then
      (if a4 = 0 then
       (some (.inl (79, [some (rV a0), some (rV a1), some (rV a2), some (iV a3), some (iV a4), some (iV a5), some (rV (gv w a1 9))], [], w1)))
      else
      if kd w1 a0 = 7 then
      bN (C 71 w1 [rV a0, rV 12, iV 0, iV 0]) (fun w2 =>
      some (.inl (79, [some (rV a0), some (rV a1), some (rV a2), some (iV a3), some (iV a4), some (iV a5), some (rV (gv w a1 9))], [], w2))) else none)
     else
     some (.inl (79, [some (rV a0), some (rV a1), some (rV a2), some (iV a3), some (iV a4), some (iV a5), some (rV (gv w a1 9))], [], w1))) else none) else none else none)
    else
    if kd w a1 = 4 then
    if (gv w a1 9) ≤ 23 ∧ (13 : Int) ≤ 23 then
    (if (gv w a1 9) = (13 : Int) then
     (if kd w a1 = 4 then
     if kd w a1 = 4 then
     bN (C 16 w [rV a1]) (fun w3 =>
     if (gv w a1 9) ≤ 23 ∧ (12 : Int) ≤ 23 then
     (if (gv w a1 9) = (12 : Int) then
      (if a4 = 0 then
       (some (.inl (79, [some (rV a0), some (rV a1), some (rV a2), some (iV a3), some (iV a4), some (iV a5), some (rV (gv w a1 9))], [], w3)))
      else
      if kd w3 a0 = 7 then
      bN (C 71 w3 [rV a0, rV 12, iV 0, iV 0]) (fun w4 =>
      some (.inl (79, [some (rV a0), some (rV a1), some (rV a2), some (iV a3), some (iV a4), some (iV a5), some (rV (gv w a1 9))], [], w4))) else none)
     else
     some (.inl (79, [some (rV a0), some (rV a1), some (rV a2), some (iV a3), some (iV a4), some (iV a5), some (rV (gv w a1 9))], [], w3))) else none) else none else none)
    else
    if a4 = 0 then
     (some (.inr (none, w)))
    else
    if kd w a0 = 7 then
    bN (C 71 w [rV a0, rV 12, iV 0, iV 0]) (fun w5 =>
    some (.inr (none, w5))) else none) else none else none) else none else none)
   else
   if a4 = 0 then
    (some (.inr (none, w)))
   else
   if kd w a0 = 7 then
   bN (C 71 w [rV a0, rV 12, iV 0, iV 0]) (fun w6 =>
   some (.inr (none, w6))) else none else none)
  else
  if a4 = 0 then
   (some (.inr (none, w)))
  else
  if kd w a0 = 7 then
  bN (C 71 w [rV a0, rV 12, iV 0, iV 0]) (fun w7 =>
  some (.inr (none, w7))) else none := by
  rfl
set_option maxRecDepth 100000 in
theorem eX7_readCond_79 (C : sC) (w : sW) (a0 a1 a2 a3 a4 a5 a6 : Int) : sg C mX7_readCond 2000 79 [some (rV a0), some (rV a1), some (rV a2), some (iV a3), some (iV a4), some (iV a5), some (rV a6)] [] w =
  if a4 = 0 then
   (if a6 ≤ 23 ∧ (12 : Int) ≤ 23 then
   (if a6 = (12 : Int) then
    (some (.inl (97, [some (rV a0), some (rV a1), some (rV a2), some (iV a3), none, some (iV a5), some (rV a6)], [iV 1], w)))
   else
   some (.inl (97, [some (rV a0), some (rV a1), some (rV a2), some (iV a3), none, some (iV a5), some (rV a6)], [iV 0], w))) else none)
  else
  some (.inl (97, [some (rV a0), some (rV a1), some (rV a2), some (iV a3), none, some (iV a5), some (rV a6)], [iV 1], w)) := by
  rfl
set_option maxRecDepth 100000 in
theorem eX7_readCond_97 (C : sC) (w : sW) (a0 a1 a2 a3 a5 a6 b0 : Int) : sg C mX7_readCond 2000 97 [some (rV a0), some (rV a1), some (rV a2), some (iV a3), none, some (iV a5), some (rV a6)] [iV b0] w =
  if kd w a0 = 7 then
  bN (C 69 w [rV a0, rV a1, rV a2, iV a3]) (fun w1 =>
  if a6 ≤ 23 ∧ (13 : Int) ≤ 23 then
  (if a6 = (13 : Int) then
   (if kd w1 a0 = 7 then
   bN (C 71 w1 [rV a0, rV 13, iV 0, iV 0]) (fun w2 =>
   some (.inl (13, [some (rV a0), some (rV a1), some (rV a2), some (iV a3), some (iV b0), some (iV (w32 (a5 + 1))), none], [], w2))) else none)
  else
  some (.inl (13, [some (rV a0), some (rV a1), some (rV a2), some (iV a3), some (iV b0), some (iV (w32 (a5 + 1))), none], [], w1))) else none) else none := by
  rfl
set_option maxRecDepth 100000 in
theorem eX7_readOne_0 (C : sC) (w : sW) (a0 a1 a2 a3 : Int) : sg C mX7_readOne 2000 0 [some (rV a0), some (rV a1), some (rV a2), some (iV a3), none, none] [] w =
  if kd w a1 = 4 then
  bI (C 22 w [rV a1, iV 40]) (fun x2 w1 =>
  if kd w1 a1 = 4 then
  if (gv w1 a1 10) = 0 then
   (if x2 = 0 then
    (if kd w1 a1 = 4 then
    if (gv w1 a1 9) = 0 then
     (if kd w1 a1 = 4 then
     bN (C 20 w1 [rV a1, iV 1]) (fun w3 =>
     some (.inr (none, w3))) else none)
    else
    if kd w1 a1 = 4 then
    if kd w1 (gv w1 a1 9) = 30 then
    if (gv w1 (gv w1 a1 9) 1) = 2 then
     (if kd w1 a0 = 7 then
     if (gv w1 a0 5) < 20 then
      (if 8 < a3 then
       (if kd w1 a1 = 4 then
       bN (C 20 w1 [rV a1, iV 4]) (fun w4 =>
       some (.inr (none, w4))) else none)
      else
      if kd w1 a0 = 7 then
      if kd w1 a0 = 7 then
      wl (sv w1 a0 5 (w32 ((gv w1 a0 5) + 1))) (fun w5 =>
      if kd w5 a1 = 4 then
      if kd w5 a1 = 4 then
      bN (C 16 w5 [rV a1]) (fun w6 =>
      if x2 = 0 then
       (if (gv w5 a1 9) ≤ 23 ∧ (14 : Int) ≤ 23 then
       (if (gv w5 a1 9) = (14 : Int) then
        (if kd w6 a0 = 7 then
        bN (C 69 w6 [rV a0, rV a1, rV a2, iV (w32 (a3 + 1))]) (fun w7 =>
        if kd w7 a0 = 7 then
        bN (C 71 w7 [rV a0, rV 14, iV 0, iV 0]) (fun w8 =>
        some (.inr (none, w8))) else none) else none)
       else
       if kd w6 a0 = 7 then
       bN (C 70 w6 [rV a0, rV a1, rV a2, rV (gv w5 a1 9)]) (fun w9 =>
       some (.inr (none, w9))) else none) else none)
      else
      if kd w6 a0 = 7 then
      bN (C 68 w6 [rV a0, rV a1, rV a2, iV (w32 (a3 + 1))]) (fun w10 =>
      if kd w10 a1 = 4 then
      bN (C 23 w10 [rV a1, iV 41]) (fun w11 =>
      some (.inr (none, w11))) else none) else none) else none else none) else none else none)
     else
     if kd w1 a1 = 4 then
     bN (C 20 w1 [rV a1, iV 4]) (fun w12 =>
     some (.inr (none, w12))) else none else none)
    else
    if kd w1 a1 = 4 then
    bN (C 20 w1 [rV a1, iV 1]) (fun w13 =>
    some (.inr (none, w13))) else none else none else none else none)
   else
   if kd w1 a0 = 7 then
   if (gv w1 a0 5) < 20 then
    (if 8 < a3 then
     (if kd w1 a1 = 4 then
     bN (C 20 w1 [rV a1, iV 4]) (fun w14 =>
     some (.inr (none, w14))) else none)
    else
    if kd w1 a0 = 7 then
    if kd w1 a0 = 7 then
    wl (sv w1 a0 5 (w32 ((gv w1 a0 5) + 1))) (fun w15 =>
    if kd w15 a1 = 4 then
    if kd w15 a1 = 4 then
    bN (C 16 w15 [rV a1]) (fun w16 =>
    if x2 = 0 then
     (if (gv w15 a1 9) ≤ 23 ∧ (14 : Int) ≤ 23 then
     (if (gv w15 a1 9) = (14 : Int) then
      (if kd w16 a0 = 7 then
      bN (C 69 w16 [rV a0, rV a1, rV a2, iV (w32 (a3 + 1))]) (fun w17 =>
      if kd w17 a0 = 7 then
      bN (C 71 w17 [rV a0, rV 14, iV 0, iV 0]) (fun w18 =>
      some (.inr (none, w18))) else none) else none)
     else
     if kd w16 a0 = 7 then
     bN (C 70 w16 [rV a0, rV a1, rV a2, rV (gv w15 a1 9)]) (fun w19 =>
     some (.inr (none, w19))) else none) else none)
    else
    if kd w16 a0 = 7 then
    bN (C 68 w16 [rV a0, rV a1, rV a2, iV (w32 (a3 + 1))]) (fun w20 =>
    if kd w20 a1 = 4 then
    bN (C 23 w20 [rV a1, iV 41]) (fun w21 =>
    some (.inr (none, w21))) else none) else none) else none else none) else none else none)
   else
   if kd w1 a1 = 4 then
   bN (C 20 w1 [rV a1, iV 4]) (fun w22 =>
   some (.inr (none, w22))) else none else none)
  else
  some (.inr (none, w1)) else none) else none := by
  rfl
set_option maxRecDepth 100000 in
theorem eX7_readPlain_0 (C : sC) (w : sW) (a0 a1 a2 a3 : Int) : sg C mX7_readPlain 2000 0 [some (rV a0), some (rV a1), some (rV a2), some (rV a3), none] [] w =
  if a3 ≤ 23 ∧ (15 : Int) ≤ 23 then
  (if a3 = (15 : Int) then
   (if kd w a0 = 7 then
   bN (C 71 w [rV a0, rV a3, iV 0, iV 0]) (fun w1 =>
   some (.inr (none, w1))) else none)
  else
  if a3 ≤ 23 ∧ (16 : Int) ≤ 23 then
  (if a3 = (16 : Int) then
   (if kd w a0 = 7 then
   bN (C 71 w [rV a0, rV a3, iV 0, iV 0]) (fun w2 =>
   some (.inr (none, w2))) else none)
  else
  if a3 ≤ 23 ∧ (17 : Int) ≤ 23 then
  (if a3 = (17 : Int) then
   (if kd w a1 = 4 then
   bI (C 26 w [rV a1, rV a2, iV (-1)]) (fun x4 w3 =>
   if kd w3 a0 = 7 then
   bN (C 71 w3 [rV a0, rV a3, iV 0, iV x4]) (fun w5 =>
   some (.inr (none, w5))) else none) else none)
  else
  if a3 ≤ 23 ∧ (18 : Int) ≤ 23 then
  (if a3 = (18 : Int) then
   (if kd w a1 = 4 then
   bI (C 26 w [rV a1, rV a2, iV (-1)]) (fun x7 w6 =>
   if kd w6 a0 = 7 then
   bN (C 71 w6 [rV a0, rV a3, iV 0, iV x7]) (fun w8 =>
   some (.inr (none, w8))) else none) else none)
  else
  if kd w a1 = 4 then
  bI (C 24 w [rV a1]) (fun x10 w9 =>
  if kd w9 a1 = 4 then
  bI (C 25 w9 [rV a1, iV 0, iV 999]) (fun x12 w11 =>
  if kd w11 a0 = 7 then
  bN (C 71 w11 [rV a0, rV a3, iV x10, iV x12]) (fun w13 =>
  some (.inr (none, w13))) else none) else none) else none) else none) else none) else none) else none := by
  rfl
set_option maxRecDepth 100000 in
theorem eX7_addStep_0 (C : sC) (w : sW) (a0 a1 a2 a3 : Int) : sg C mX7_addStep 2000 0 [some (rV a0), some (rV a1), some (iV a2), some (iV a3)] [] w =
  if kd w a0 = 7 then
  if (gv w a0 4) < 40 then
   (if kd w a0 = 7 then
   if kd w a0 = 7 then
   if ((kd w (gv w a0 0) = 24 ∧ kd w a1 = 5) ∨ (kd w (gv w a0 0) = 25 ∧ kd w a1 = 8) ∨ (kd w (gv w a0 0) = 26 ∧ kd w a1 = 7) ∨ (kd w (gv w a0 0) = 27 ∧ kd w a1 = 30 ∧ 32 ≤ (gv w a0 0))) ∧ 0 ≤ (gv w a0 4) ∧ (gv w a0 4) < ln w (gv w a0 0) then
   wl (sv w (gv w a0 0) (gv w a0 4) a1) (fun w1 =>
   if kd w1 a0 = 7 then
   if kd w1 a0 = 7 then
   if (kd w1 (gv w1 a0 1) = 20 ∧ 32 ≤ (gv w1 a0 1)) ∧ 0 ≤ (gv w1 a0 4) ∧ (gv w1 a0 4) < ln w1 (gv w1 a0 1) then
   wl (sv w1 (gv w1 a0 1) (gv w1 a0 4) a2) (fun w2 =>
   if kd w2 a0 = 7 then
   if kd w2 a0 = 7 then
   if (kd w2 (gv w2 a0 2) = 20 ∧ 32 ≤ (gv w2 a0 2)) ∧ 0 ≤ (gv w2 a0 4) ∧ (gv w2 a0 4) < ln w2 (gv w2 a0 2) then
   wl (sv w2 (gv w2 a0 2) (gv w2 a0 4) a3) (fun w3 =>
   if kd w3 a0 = 7 then
   if kd w3 a0 = 7 then
   wl (sv w3 a0 4 (w32 ((gv w3 a0 4) + 1))) (fun w4 =>
   some (.inr (none, w4))) else none else none) else none else none else none) else none else none else none) else none else none else none)
  else
  some (.inr (none, w)) else none := by
  rfl
set_option maxRecDepth 100000 in
theorem eX7_isTrueOf_0 (C : sC) (w : sW) (a0 a1 a2 : Int) : sg C mX7_isTrueOf 2000 0 [some (rV a0), some (rV a1), some (iV a2), none, none, none] [] w =
  some (.inl (5, [some (rV a0), some (rV a1), some (iV a2), some (iV 0), some (iV 0), none], [], w)) := by
  rfl
set_option maxRecDepth 100000 in
theorem eX7_isTrueOf_5 (C : sC) (w : sW) (a0 a1 a2 a3 a4 : Int) : sg C mX7_isTrueOf 2000 5 [some (rV a0), some (rV a1), some (iV a2), some (iV a3), some (iV a4), none] [] w =
  if kd w a0 = 7 then
  if a4 < (gv w a0 4) then
   (if a4 < 40 then
    (if kd w a0 = 7 then
    if (24 ≤ kd w (gv w a0 0) ∧ kd w (gv w a0 0) ≤ 27) ∧ 0 ≤ a4 ∧ a4 < ln w (gv w a0 0) then
    if (gv w (gv w a0 0) a4) ≤ 23 ∧ (14 : Int) ≤ 23 then
    (if (gv w (gv w a0 0) a4) = (14 : Int) then
     (if a3 < 1 then
      (if (gv w (gv w a0 0) a4) ≤ 23 ∧ (13 : Int) ≤ 23 then
      (if (gv w (gv w a0 0) a4) = (13 : Int) then
       (if a3 < 2 then
        (some (.inl (122, [some (rV a0), some (rV a1), some (iV a2), some (iV a3), some (iV a4), some (rV (gv w (gv w a0 0) a4))], [], w)))
       else
       if kd w a0 = 7 then
       if kd w a0 = 7 then
       if (kd w (gv w a0 3) = 21 ∨ kd w (gv w a0 3) = 23) ∧ 0 ≤ (w32 ((w32 (a3 + (-1))) - 1)) ∧ (w32 ((w32 (a3 + (-1))) - 1)) < ln w (gv w a0 3) then
       if (gv w (gv w a0 3) (w32 ((w32 (a3 + (-1))) - 1))) = 0 then
        (if ((kd w (gv w a0 3) = 21 ∧ -128 ≤ (0 : Int) ∧ (0 : Int) < 128) ∨ (kd w (gv w a0 3) = 23 ∧ ((0 : Int) = 0 ∨ (0 : Int) = 1))) ∧ 0 ≤ (w32 ((w32 (a3 + (-1))) - 1)) ∧ (w32 ((w32 (a3 + (-1))) - 1)) < ln w (gv w a0 3) then
        wl (sv w (gv w a0 3) (w32 ((w32 (a3 + (-1))) - 1)) 0) (fun w1 =>
        some (.inl (5, [some (rV a0), some (rV a1), some (iV a2), some (iV (w32 (a3 + (-1)))), some (iV (w32 (a4 + 1))), none], [], w1))) else none)
       else
       if kd w a0 = 7 then
       if (kd w (gv w a0 3) = 21 ∨ kd w (gv w a0 3) = 23) ∧ 0 ≤ (w32 (a3 + (-1))) ∧ (w32 (a3 + (-1))) < ln w (gv w a0 3) then
       if (gv w (gv w a0 3) (w32 (a3 + (-1)))) = 0 then
        (if ((kd w (gv w a0 3) = 21 ∧ -128 ≤ (0 : Int) ∧ (0 : Int) < 128) ∨ (kd w (gv w a0 3) = 23 ∧ ((0 : Int) = 0 ∨ (0 : Int) = 1))) ∧ 0 ≤ (w32 ((w32 (a3 + (-1))) - 1)) ∧ (w32 ((w32 (a3 + (-1))) - 1)) < ln w (gv w a0 3) then
        wl (sv w (gv w a0 3) (w32 ((w32 (a3 + (-1))) - 1)) 0) (fun w2 =>
        some (.inl (5, [some (rV a0), some (rV a1), some (iV a2), some (iV (w32 (a3 + (-1)))), some (iV (w32 (a4 + 1))), none], [], w2))) else none)
       else
       if ((kd w (gv w a0 3) = 21 ∧ -128 ≤ (1 : Int) ∧ (1 : Int) < 128) ∨ (kd w (gv w a0 3) = 23 ∧ ((1 : Int) = 0 ∨ (1 : Int) = 1))) ∧ 0 ≤ (w32 ((w32 (a3 + (-1))) - 1)) ∧ (w32 ((w32 (a3 + (-1))) - 1)) < ln w (gv w a0 3) then
       wl (sv w (gv w a0 3) (w32 ((w32 (a3 + (-1))) - 1)) 1) (fun w3 =>
       some (.inl (5, [some (rV a0), some (rV a1), some (iV a2), some (iV (w32 (a3 + (-1)))), some (iV (w32 (a4 + 1))), none], [], w3))) else none else none else none else none else none else none)
      else
      some (.inl (122, [some (rV a0), some (rV a1), some (iV a2), some (iV a3), some (iV a4), some (rV (gv w (gv w a0 0) a4))], [], w))) else none)
     else
     if kd w a0 = 7 then
     if kd w a0 = 7 then
     if (kd w (gv w a0 3) = 21 ∨ kd w (gv w a0 3) = 23) ∧ 0 ≤ (w32 (a3 - 1)) ∧ (w32 (a3 - 1)) < ln w (gv w a0 3) then
     if (gv w (gv w a0 3) (w32 (a3 - 1))) = 0 then
      (if ((kd w (gv w a0 3) = 21 ∧ -128 ≤ (1 : Int) ∧ (1 : Int) < 128) ∨ (kd w (gv w a0 3) = 23 ∧ ((1 : Int) = 0 ∨ (1 : Int) = 1))) ∧ 0 ≤ (w32 (a3 - 1)) ∧ (w32 (a3 - 1)) < ln w (gv w a0 3) then
      wl (sv w (gv w a0 3) (w32 (a3 - 1)) 1) (fun w4 =>
      some (.inl (5, [some (rV a0), some (rV a1), some (iV a2), some (iV a3), some (iV (w32 (a4 + 1))), none], [], w4))) else none)
     else
     if ((kd w (gv w a0 3) = 21 ∧ -128 ≤ (0 : Int) ∧ (0 : Int) < 128) ∨ (kd w (gv w a0 3) = 23 ∧ ((0 : Int) = 0 ∨ (0 : Int) = 1))) ∧ 0 ≤ (w32 (a3 - 1)) ∧ (w32 (a3 - 1)) < ln w (gv w a0 3) then
     wl (sv w (gv w a0 3) (w32 (a3 - 1)) 0) (fun w5 =>
     some (.inl (5, [some (rV a0), some (rV a1), some (iV a2), some (iV a3), some (iV (w32 (a4 + 1))), none], [], w5))) else none else none else none else none)
    else
    if (gv w (gv w a0 0) a4) ≤ 23 ∧ (13 : Int) ≤ 23 then
    (if (gv w (gv w a0 0) a4) = (13 : Int) then
     (if a3 < 2 then
      (some (.inl (122, [some (rV a0), some (rV a1), some (iV a2), some (iV a3), some (iV a4), some (rV (gv w (gv w a0 0) a4))], [], w)))
     else
     if kd w a0 = 7 then
     if kd w a0 = 7 then
     if (kd w (gv w a0 3) = 21 ∨ kd w (gv w a0 3) = 23) ∧ 0 ≤ (w32 ((w32 (a3 + (-1))) - 1)) ∧ (w32 ((w32 (a3 + (-1))) - 1)) < ln w (gv w a0 3) then
     if (gv w (gv w a0 3) (w32 ((w32 (a3 + (-1))) - 1))) = 0 then
      (if ((kd w (gv w a0 3) = 21 ∧ -128 ≤ (0 : Int) ∧ (0 : Int) < 128) ∨ (kd w (gv w a0 3) = 23 ∧ ((0 : Int) = 0 ∨ (0 : Int) = 1))) ∧ 0 ≤ (w32 ((w32 (a3 + (-1))) - 1)) ∧ (w32 ((w32 (a3 + (-1))) - 1)) < ln w (gv w a0 3) then
      wl (sv w (gv w a0 3) (w32 ((w32 (a3 + (-1))) - 1)) 0) (fun w6 =>
      some (.inl (5, [some (rV a0), some (rV a1), some (iV a2), some (iV (w32 (a3 + (-1)))), some (iV (w32 (a4 + 1))), none], [], w6))) else none)
     else
     if kd w a0 = 7 then
     if (kd w (gv w a0 3) = 21 ∨ kd w (gv w a0 3) = 23) ∧ 0 ≤ (w32 (a3 + (-1))) ∧ (w32 (a3 + (-1))) < ln w (gv w a0 3) then
     if (gv w (gv w a0 3) (w32 (a3 + (-1)))) = 0 then
      (if ((kd w (gv w a0 3) = 21 ∧ -128 ≤ (0 : Int) ∧ (0 : Int) < 128) ∨ (kd w (gv w a0 3) = 23 ∧ ((0 : Int) = 0 ∨ (0 : Int) = 1))) ∧ 0 ≤ (w32 ((w32 (a3 + (-1))) - 1)) ∧ (w32 ((w32 (a3 + (-1))) - 1)) < ln w (gv w a0 3) then
      wl (sv w (gv w a0 3) (w32 ((w32 (a3 + (-1))) - 1)) 0) (fun w7 =>
      some (.inl (5, [some (rV a0), some (rV a1), some (iV a2), some (iV (w32 (a3 + (-1)))), some (iV (w32 (a4 + 1))), none], [], w7))) else none)
     else
     if ((kd w (gv w a0 3) = 21 ∧ -128 ≤ (1 : Int) ∧ (1 : Int) < 128) ∨ (kd w (gv w a0 3) = 23 ∧ ((1 : Int) = 0 ∨ (1 : Int) = 1))) ∧ 0 ≤ (w32 ((w32 (a3 + (-1))) - 1)) ∧ (w32 ((w32 (a3 + (-1))) - 1)) < ln w (gv w a0 3) then
     wl (sv w (gv w a0 3) (w32 ((w32 (a3 + (-1))) - 1)) 1) (fun w8 =>
     some (.inl (5, [some (rV a0), some (rV a1), some (iV a2), some (iV (w32 (a3 + (-1)))), some (iV (w32 (a4 + 1))), none], [], w8))) else none else none else none else none else none else none)
    else
    some (.inl (122, [some (rV a0), some (rV a1), some (iV a2), some (iV a3), some (iV a4), some (rV (gv w (gv w a0 0) a4))], [], w))) else none) else none else none else none)
   else
   if a3 = 1 then
    (if kd w a0 = 7 then
    if (kd w (gv w a0 3) = 21 ∨ kd w (gv w a0 3) = 23) ∧ 0 ≤ (0 : Int) ∧ (0 : Int) < ln w (gv w a0 3) then
    if (gv w (gv w a0 3) 0) = 0 then
     (some (.inr (some (iV 0), w)))
    else
    some (.inr (some (iV 1), w)) else none else none)
   else
   some (.inr (some (iV 0), w)))
  else
  if a3 = 1 then
   (if kd w a0 = 7 then
   if (kd w (gv w a0 3) = 21 ∨ kd w (gv w a0 3) = 23) ∧ 0 ≤ (0 : Int) ∧ (0 : Int) < ln w (gv w a0 3) then
   if (gv w (gv w a0 3) 0) = 0 then
    (some (.inr (some (iV 0), w)))
   else
   some (.inr (some (iV 1), w)) else none else none)
  else
  some (.inr (some (iV 0), w)) else none := by
  rfl
set_option maxRecDepth 100000 in
theorem eX7_isTrueOf_122 (C : sC) (w : sW) (a0 a1 a2 a3 a4 a5 : Int) : sg C mX7_isTrueOf 2000 122 [some (rV a0), some (rV a1), some (iV a2), some (iV a3), some (iV a4), some (rV a5)] [] w =
  if a5 ≤ 23 ∧ (12 : Int) ≤ 23 then
  (if a5 = (12 : Int) then
   (if a3 < 2 then
    (if kd w a0 = 7 then
    if kd w a0 = 7 then
    bI (C 73 w [rV a0, iV a4, rV a1, iV a2]) (fun x2 w1 =>
    if ((kd w1 (gv w a0 3) = 21 ∧ -128 ≤ x2 ∧ x2 < 128) ∨ (kd w1 (gv w a0 3) = 23 ∧ (x2 = 0 ∨ x2 = 1))) ∧ 0 ≤ a3 ∧ a3 < ln w1 (gv w a0 3) then
    wl (sv w1 (gv w a0 3) a3 x2) (fun w3 =>
    some (.inl (5, [some (rV a0), some (rV a1), some (iV a2), some (iV (w32 (a3 + 1))), some (iV (w32 (a4 + 1))), none], [], w3))) else none) else none else none)
   else
   if kd w a0 = 7 then
   if kd w a0 = 7 then
   if (kd w (gv w a0 3) = 21 ∨ kd w (gv w a0 3) = 23) ∧ 0 ≤ (w32 ((w32 (a3 + (-1))) - 1)) ∧ (w32 ((w32 (a3 + (-1))) - 1)) < ln w (gv w a0 3) then
   if (gv w (gv w a0 3) (w32 ((w32 (a3 + (-1))) - 1))) = 0 then
    (if kd w a0 = 7 then
    if (kd w (gv w a0 3) = 21 ∨ kd w (gv w a0 3) = 23) ∧ 0 ≤ (w32 (a3 + (-1))) ∧ (w32 (a3 + (-1))) < ln w (gv w a0 3) then
    if (gv w (gv w a0 3) (w32 (a3 + (-1)))) = 0 then
     (if ((kd w (gv w a0 3) = 21 ∧ -128 ≤ (0 : Int) ∧ (0 : Int) < 128) ∨ (kd w (gv w a0 3) = 23 ∧ ((0 : Int) = 0 ∨ (0 : Int) = 1))) ∧ 0 ≤ (w32 ((w32 (a3 + (-1))) - 1)) ∧ (w32 ((w32 (a3 + (-1))) - 1)) < ln w (gv w a0 3) then
     wl (sv w (gv w a0 3) (w32 ((w32 (a3 + (-1))) - 1)) 0) (fun w4 =>
     some (.inl (5, [some (rV a0), some (rV a1), some (iV a2), some (iV (w32 (a3 + (-1)))), some (iV (w32 (a4 + 1))), none], [], w4))) else none)
    else
    if ((kd w (gv w a0 3) = 21 ∧ -128 ≤ (1 : Int) ∧ (1 : Int) < 128) ∨ (kd w (gv w a0 3) = 23 ∧ ((1 : Int) = 0 ∨ (1 : Int) = 1))) ∧ 0 ≤ (w32 ((w32 (a3 + (-1))) - 1)) ∧ (w32 ((w32 (a3 + (-1))) - 1)) < ln w (gv w a0 3) then
    wl (sv w (gv w a0 3) (w32 ((w32 (a3 + (-1))) - 1)) 1) (fun w5 =>
    some (.inl (5, [some (rV a0), some (rV a1), some (iV a2), some (iV (w32 (a3 + (-1)))), some (iV (w32 (a4 + 1))), none], [], w5))) else none else none else none)
   else
   if ((kd w (gv w a0 3) = 21 ∧ -128 ≤ (1 : Int) ∧ (1 : Int) < 128) ∨ (kd w (gv w a0 3) = 23 ∧ ((1 : Int) = 0 ∨ (1 : Int) = 1))) ∧ 0 ≤ (w32 ((w32 (a3 + (-1))) - 1)) ∧ (w32 ((w32 (a3 + (-1))) - 1)) < ln w (gv w a0 3) then
   wl (sv w (gv w a0 3) (w32 ((w32 (a3 + (-1))) - 1)) 1) (fun w6 =>
   some (.inl (5, [some (rV a0), some (rV a1), some (iV a2), some (iV (w32 (a3 + (-1)))), some (iV (w32 (a4 + 1))), none], [], w6))) else none else none else none else none)
  else
  if kd w a0 = 7 then
  if kd w a0 = 7 then
  bI (C 73 w [rV a0, iV a4, rV a1, iV a2]) (fun x8 w7 =>
  if ((kd w7 (gv w a0 3) = 21 ∧ -128 ≤ x8 ∧ x8 < 128) ∨ (kd w7 (gv w a0 3) = 23 ∧ (x8 = 0 ∨ x8 = 1))) ∧ 0 ≤ a3 ∧ a3 < ln w7 (gv w a0 3) then
  wl (sv w7 (gv w a0 3) a3 x8) (fun w9 =>
  some (.inl (5, [some (rV a0), some (rV a1), some (iV a2), some (iV (w32 (a3 + 1))), some (iV (w32 (a4 + 1))), none], [], w9))) else none) else none else none) else none := by
  rfl
set_option maxRecDepth 100000 in
theorem eX7_isPlainTrue_0 (C : sC) (w : sW) (a0 a1 a2 a3 : Int) : sg C mX7_isPlainTrue 2000 0 [some (rV a0), some (iV a1), some (rV a2), some (iV a3), none, none, none] [] w =
  if kd w a2 = 8 then
  bR (C 77 w [rV a2, iV a3]) (fun r2 w1 =>
  if r2 = 0 then
   (some (.inr (some (iV 0), w1)))
  else
  if kd w1 a0 = 7 then
  if (24 ≤ kd w1 (gv w1 a0 0) ∧ kd w1 (gv w1 a0 0) ≤ 27) ∧ 0 ≤ a1 ∧ a1 < ln w1 (gv w1 a0 0) then
  if (gv w1 (gv w1 a0 0) a1) ≤ 23 ∧ (15 : Int) ≤ 23 then
  (if (gv w1 (gv w1 a0 0) a1) = (15 : Int) then
   (if kd w1 r2 = 5 then
   if (gv w1 r2 2) = 0 then
    (some (.inr (some (iV 1), w1)))
   else
   some (.inr (some (iV 0), w1)) else none)
  else
  if (gv w1 (gv w1 a0 0) a1) ≤ 23 ∧ (16 : Int) ≤ 23 then
  (if (gv w1 (gv w1 a0 0) a1) = (16 : Int) then
   (if kd w1 r2 = 5 then
   if kd w1 r2 = 5 then
   bI (C 35 w1 [rV r2, iV 0, iV (gv w1 r2 2), iV 1]) (fun x4 w3 =>
   if (2 : Int) = 0 then none else
   if (Int.tmod x4 2) = 0 then
    (some (.inr (some (iV 1), w3)))
   else
   some (.inr (some (iV 0), w3))) else none else none)
  else
  if (gv w1 (gv w1 a0 0) a1) ≤ 23 ∧ (17 : Int) ≤ 23 then
  (if (gv w1 (gv w1 a0 0) a1) = (17 : Int) then
   (if kd w1 a0 = 7 then
   if kd w1 (gv w1 a0 2) = 20 ∧ 0 ≤ a1 ∧ a1 < ln w1 (gv w1 a0 2) then
   if kd w1 a2 = 8 then
   bR (C 77 w1 [rV a2, iV (gv w1 (gv w1 a0 2) a1)]) (fun r6 w5 =>
   if r6 = 0 then
    (some (.inr (some (iV 0), w5)))
   else
   if (gv w1 (gv w1 a0 0) a1) ≤ 23 ∧ (17 : Int) ≤ 23 then
   (if (gv w1 (gv w1 a0 0) a1) = (17 : Int) then
    (if kd w5 r2 = 5 then
    bI (C 43 w5 [rV r2, rV r6]) (fun x8 w7 =>
    if x8 = (-1) then
     (some (.inr (some (iV 1), w7)))
    else
    some (.inr (some (iV 0), w7))) else none)
   else
   if kd w5 r2 = 5 then
   bI (C 44 w5 [rV r2, rV r6]) (fun x10 w9 =>
   if x10 = 0 then
    (some (.inr (some (iV 0), w9)))
   else
   some (.inr (some (iV 1), w9))) else none) else none) else none else none else none)
  else
  if (gv w1 (gv w1 a0 0) a1) ≤ 23 ∧ (18 : Int) ≤ 23 then
  (if (gv w1 (gv w1 a0 0) a1) = (18 : Int) then
   (if kd w1 a0 = 7 then
   if kd w1 (gv w1 a0 2) = 20 ∧ 0 ≤ a1 ∧ a1 < ln w1 (gv w1 a0 2) then
   if kd w1 a2 = 8 then
   bR (C 77 w1 [rV a2, iV (gv w1 (gv w1 a0 2) a1)]) (fun r12 w11 =>
   if r12 = 0 then
    (some (.inr (some (iV 0), w11)))
   else
   if (gv w1 (gv w1 a0 0) a1) ≤ 23 ∧ (17 : Int) ≤ 23 then
   (if (gv w1 (gv w1 a0 0) a1) = (17 : Int) then
    (if kd w11 r2 = 5 then
    bI (C 43 w11 [rV r2, rV r12]) (fun x14 w13 =>
    if x14 = (-1) then
     (some (.inr (some (iV 1), w13)))
    else
    some (.inr (some (iV 0), w13))) else none)
   else
   if kd w11 r2 = 5 then
   bI (C 44 w11 [rV r2, rV r12]) (fun x16 w15 =>
   if x16 = 0 then
    (some (.inr (some (iV 0), w15)))
   else
   some (.inr (some (iV 1), w15))) else none) else none) else none else none else none)
  else
  bI (C 74 w1 [rV (gv w1 (gv w1 a0 0) a1), rV r2, iV a3]) (fun x18 w17 =>
  if kd w17 a0 = 7 then
  if kd w17 (gv w17 a0 1) = 20 ∧ 0 ≤ a1 ∧ a1 < ln w17 (gv w17 a0 1) then
  if (gv w17 (gv w17 a0 1) a1) = 60 then
   (if kd w17 a0 = 7 then
   if kd w17 (gv w17 a0 2) = 20 ∧ 0 ≤ a1 ∧ a1 < ln w17 (gv w17 a0 2) then
   if x18 < (gv w17 (gv w17 a0 2) a1) then
    (some (.inr (some (iV 1), w17)))
   else
   some (.inr (some (iV 0), w17)) else none else none)
  else
  if kd w17 a0 = 7 then
  if kd w17 (gv w17 a0 1) = 20 ∧ 0 ≤ a1 ∧ a1 < ln w17 (gv w17 a0 1) then
  if (gv w17 (gv w17 a0 1) a1) = 61 then
   (if kd w17 a0 = 7 then
   if kd w17 (gv w17 a0 2) = 20 ∧ 0 ≤ a1 ∧ a1 < ln w17 (gv w17 a0 2) then
   if x18 = (gv w17 (gv w17 a0 2) a1) then
    (some (.inr (some (iV 1), w17)))
   else
   some (.inr (some (iV 0), w17)) else none else none)
  else
  if kd w17 a0 = 7 then
  if kd w17 (gv w17 a0 2) = 20 ∧ 0 ≤ a1 ∧ a1 < ln w17 (gv w17 a0 2) then
  if (gv w17 (gv w17 a0 2) a1) < x18 then
   (some (.inr (some (iV 1), w17)))
  else
  some (.inr (some (iV 0), w17)) else none else none else none else none else none else none)) else none) else none) else none) else none else none else none) else none := by
  rfl
set_option maxRecDepth 100000 in
theorem eX7_measure_0 (C : sC) (w : sW) (a0 a1 a2 : Int) : sg C mX7_measure 2000 0 [some (rV a0), some (rV a1), some (iV a2)] [] w =
  if a0 ≤ 23 ∧ (19 : Int) ≤ 23 then
  (if a0 = (19 : Int) then
   (if kd w a1 = 5 then
   some (.inr (some (iV (gv w a1 2)), w)) else none)
  else
  if a0 ≤ 23 ∧ (20 : Int) ≤ 23 then
  (if a0 = (20 : Int) then
   (if kd w a1 = 5 then
   if kd w a1 = 5 then
   bI (C 35 w [rV a1, iV 0, iV (gv w a1 2), iV 1]) (fun x2 w1 =>
   some (.inr (some (iV x2), w1))) else none else none)
  else
  if a0 ≤ 23 ∧ (21 : Int) ≤ 23 then
  (if a0 = (21 : Int) then
   (if kd w a1 = 5 then
   bI (C 38 w [rV a1]) (fun x4 w3 =>
   some (.inr (some (iV x4), w3))) else none)
  else
  if a0 ≤ 23 ∧ (22 : Int) ≤ 23 then
  (if a0 = (22 : Int) then
   (if kd w a1 = 5 then
   some (.inr (some (iV (gv w a1 3)), w)) else none)
  else
  some (.inr (some (iV a2), w))) else none) else none) else none) else none := by
  rfl
set_option maxRecDepth 100000 in
theorem eX8_init_0 (C : sC) (w : sW) (a0 : Int) : sg C mX8_init 2000 0 [some (rV a0), none] [] w =
  if kd w a0 = 8 then
  if 0 ≤ (4 : Int) ∧ (4 : Int) ≤ 100000 then
  wl (al w 24 4 (Int.toNat 4)) (fun w1 =>
  if kd w1 a0 = 8 then
  wl (sv w1 a0 0 (nx w)) (fun w2 =>
  if 0 ≤ (4 : Int) ∧ (4 : Int) ≤ 100000 then
  wl (al w2 22 4 (Int.toNat 4)) (fun w3 =>
  if kd w3 a0 = 8 then
  wl (sv w3 a0 1 (nx w2)) (fun w4 =>
  wl (al w4 6 0 2) (fun w5 =>
  if kd w5 (nx w4) = 6 then
  bN (C 54 w5 [rV (nx w4)]) (fun w6 =>
  if kd w6 a0 = 8 then
  wl (sv w6 a0 2 (nx w4)) (fun w7 =>
  if kd w7 a0 = 8 then
  wl (sv w7 a0 4 8) (fun w8 =>
  some (.inl (38, [some (rV a0), some (iV 0)], [], w8))) else none) else none) else none)) else none) else none) else none) else none else none := by
  rfl
set_option maxRecDepth 100000 in
theorem eX8_init_38 (C : sC) (w : sW) (a0 a1 : Int) : sg C mX8_init 2000 38 [some (rV a0), some (iV a1)] [] w =
  if a1 < 4 then
   (if kd w a0 = 8 then
   wl (al w 5 0 4) (fun w1 =>
   if kd w1 (nx w) = 5 then
   bN (C 29 w1 [rV (nx w)]) (fun w2 =>
   if ((kd w2 (gv w a0 0) = 24 ∧ kd w2 (nx w) = 5) ∨ (kd w2 (gv w a0 0) = 25 ∧ kd w2 (nx w) = 8) ∨ (kd w2 (gv w a0 0) = 26 ∧ kd w2 (nx w) = 7) ∨ (kd w2 (gv w a0 0) = 27 ∧ kd w2 (nx w) = 30 ∧ 32 ≤ (gv w a0 0))) ∧ 0 ≤ a1 ∧ a1 < ln w2 (gv w a0 0) then
   wl (sv w2 (gv w a0 0) a1 (nx w)) (fun w3 =>
   some (.inl (38, [some (rV a0), some (iV (w32 (a1 + 1)))], [], w3))) else none) else none) else none)
  else
  some (.inr (none, w)) := by
  rfl
set_option maxRecDepth 100000 in
theorem eX8_copyFrom_0 (C : sC) (w : sW) (a0 a1 : Int) : sg C mX8_copyFrom 2000 0 [some (rV a0), some (rV a1), none] [] w =
  some (.inl (2, [some (rV a0), some (rV a1), some (iV 0)], [], w)) := by
  rfl
set_option maxRecDepth 100000 in
theorem eX8_copyFrom_2 (C : sC) (w : sW) (a0 a1 a2 : Int) : sg C mX8_copyFrom 2000 2 [some (rV a0), some (rV a1), some (iV a2)] [] w =
  if kd w a1 = 8 then
  if a2 < (gv w a1 3) then
   (if a2 < 4 then
    (if kd w a0 = 8 then
    if (24 ≤ kd w (gv w a0 0) ∧ kd w (gv w a0 0) ≤ 27) ∧ 0 ≤ a2 ∧ a2 < ln w (gv w a0 0) then
    if kd w a1 = 8 then
    if (24 ≤ kd w (gv w a1 0) ∧ kd w (gv w a1 0) ≤ 27) ∧ 0 ≤ a2 ∧ a2 < ln w (gv w a1 0) then
    if kd w (gv w (gv w a0 0) a2) = 5 then
    bN (C 31 w [rV (gv w (gv w a0 0) a2), rV (gv w (gv w a1 0) a2)]) (fun w1 =>
    if kd w1 a0 = 8 then
    if kd w1 a1 = 8 then
    if kd w1 (gv w1 a1 1) = 22 ∧ 0 ≤ a2 ∧ a2 < ln w1 (gv w1 a1 1) then
    if kd w1 (gv w1 a0 1) = 22 ∧ 0 ≤ a2 ∧ a2 < ln w1 (gv w1 a0 1) then
    wl (sv w1 (gv w1 a0 1) a2 (gv w1 (gv w1 a1 1) a2)) (fun w2 =>
    some (.inl (2, [some (rV a0), some (rV a1), some (iV (w32 (a2 + 1)))], [], w2))) else none else none else none else none) else none else none else none else none else none)
   else
   if kd w a0 = 8 then
   if kd w a1 = 8 then
   if kd w (gv w a0 2) = 6 then
   bN (C 55 w [rV (gv w a0 2), rV (gv w a1 2)]) (fun w3 =>
   if kd w3 a1 = 8 then
   if kd w3 a0 = 8 then
   wl (sv w3 a0 3 (gv w3 a1 3)) (fun w4 =>
   if kd w4 a1 = 8 then
   if kd w4 a0 = 8 then
   wl (sv w4 a0 4 (gv w4 a1 4)) (fun w5 =>
   some (.inr (none, w5))) else none else none) else none else none) else none else none else none)
  else
  if kd w a0 = 8 then
  if kd w a1 = 8 then
  if kd w (gv w a0 2) = 6 then
  bN (C 55 w [rV (gv w a0 2), rV (gv w a1 2)]) (fun w6 =>
  if kd w6 a1 = 8 then
  if kd w6 a0 = 8 then
  wl (sv w6 a0 3 (gv w6 a1 3)) (fun w7 =>
  if kd w7 a1 = 8 then
  if kd w7 a0 = 8 then
  wl (sv w7 a0 4 (gv w7 a1 4)) (fun w8 =>
  some (.inr (none, w8))) else none else none) else none else none) else none else none else none else none := by
  rfl
set_option maxRecDepth 100000 in
theorem eX8_rowAt_0 (C : sC) (w : sW) (a0 a1 : Int) : sg C mX8_rowAt 2000 0 [some (rV a0), some (iV a1)] [] w =
  if a1 < 0 then
   (some (.inr (some (rV 0), w)))
  else
  if kd w a0 = 8 then
  if a1 < (gv w a0 3) then
   (if a1 < 4 then
    (if kd w a0 = 8 then
    if (24 ≤ kd w (gv w a0 0) ∧ kd w (gv w a0 0) ≤ 27) ∧ 0 ≤ a1 ∧ a1 < ln w (gv w a0 0) then
    some (.inr (some (rV (gv w (gv w a0 0) a1)), w)) else none else none)
   else
   some (.inr (some (rV 0), w)))
  else
  some (.inr (some (rV 0), w)) else none := by
  rfl
set_option maxRecDepth 100000 in
theorem eX8_numberOf_0 (C : sC) (w : sW) (a0 a1 : Int) : sg C mX8_numberOf 2000 0 [some (rV a0), some (lV a1), none, none] [] w =
  some (.inl (2, [some (rV a0), some (lV a1), none, some (iV 0)], [], w)) := by
  rfl
set_option maxRecDepth 100000 in
theorem eX8_numberOf_2 (C : sC) (w : sW) (a0 a1 a3 : Int) : sg C mX8_numberOf 2000 2 [some (rV a0), some (lV a1), none, some (iV a3)] [] w =
  if kd w a0 = 8 then
  if a3 < (gv w a0 3) then
   (if a3 < 4 then
    (if kd w a0 = 8 then
    if kd w (gv w a0 1) = 22 ∧ 0 ≤ a3 ∧ a3 < ln w (gv w a0 1) then
    if (cmpL (gv w (gv w a0 1) a3) a1) = 0 then
     (some (.inr (some (iV a3), w)))
    else
    some (.inl (2, [some (rV a0), some (lV a1), none, some (iV (w32 (a3 + 1)))], [], w)) else none else none)
   else
   some (.inr (some (iV (-1)), w)))
  else
  some (.inr (some (iV (-1)), w)) else none := by
  rfl
set_option maxRecDepth 100000 in
theorem eX8_allBits_0 (C : sC) (w : sW) (a0 : Int) : sg C mX8_allBits 2000 0 [some (rV a0), none, none] [] w =
  some (.inl (4, [some (rV a0), some (iV 0), some (iV 0)], [], w)) := by
  rfl
set_option maxRecDepth 100000 in
theorem eX8_allBits_4 (C : sC) (w : sW) (a0 a1 a2 : Int) : sg C mX8_allBits 2000 4 [some (rV a0), some (iV a1), some (iV a2)] [] w =
  if kd w a0 = 8 then
  if a2 < (gv w a0 3) then
   (if a2 < 4 then
    (if kd w a0 = 8 then
    if (24 ≤ kd w (gv w a0 0) ∧ kd w (gv w a0 0) ≤ 27) ∧ 0 ≤ a2 ∧ a2 < ln w (gv w a0 0) then
    if kd w (gv w (gv w a0 0) a2) = 5 then
    some (.inl (4, [some (rV a0), some (iV (w32 (a1 + (gv w (gv w (gv w a0 0) a2) 2)))), some (iV (w32 (a2 + 1)))], [], w)) else none else none else none)
   else
   some (.inr (some (iV a1), w)))
  else
  some (.inr (some (iV a1), w)) else none := by
  rfl
set_option maxRecDepth 100000 in
theorem eX8_readLines_0 (C : sC) (w : sW) (a0 a1 : Int) : sg C mX8_readLines 2000 0 [some (rV a0), some (rV a1), none, none] [] w =
  if kd w a0 = 8 then
  wl (sv w a0 3 0) (fun w1 =>
  if kd w1 a0 = 8 then
  wl (sv w1 a0 4 8) (fun w2 =>
  if kd w2 a0 = 8 then
  if kd w2 (gv w2 a0 2) = 6 then
  wl (sv w2 (gv w2 a0 2) 1 0) (fun w3 =>
  if kd w3 a0 = 8 ∧ ((0 : Int) = 0 ∨ (0 : Int) = 1) then
  wl (sv w3 a0 5 0) (fun w4 =>
  some (.inl (28, [some (rV a0), some (rV a1), some (iV 0), some (iV 0)], [], w4))) else none) else none else none) else none) else none := by
  rfl
set_option maxRecDepth 100000 in
theorem eX8_readLines_28 (C : sC) (w : sW) (a0 a1 a2 a3 : Int) : sg C mX8_readLines 2000 28 [some (rV a0), some (rV a1), some (iV a2), some (iV a3)] [] w =
  if a3 < 940 then
   (if kd w a1 = 4 then
   bI (C 19 w [rV a1]) (fun x2 w1 =>
   if x2 = 0 then
    (some (.inr (some (iV a2), w1)))
   else
   if kd w1 a1 = 4 then
   if (gv w1 a1 9) ≤ 23 ∧ (1 : Int) ≤ 23 then
   (if (gv w1 a1 9) = (1 : Int) then
    (if a2 = 0 then
     (if kd w1 a0 = 8 then
     bN (C 81 w1 [rV a0, rV a1, iV 1]) (fun w3 =>
     if kd w3 a1 = 4 then
     bN (C 23 w3 [rV a1, iV 59]) (fun w4 =>
     some (.inl (28, [some (rV a0), some (rV a1), some (iV (w32 (a2 + 1))), some (iV (w32 (a3 + 1)))], [], w4))) else none) else none)
    else
    if kd w1 a0 = 8 then
    bN (C 81 w1 [rV a0, rV a1, iV 0]) (fun w5 =>
    if kd w5 a1 = 4 then
    bN (C 23 w5 [rV a1, iV 59]) (fun w6 =>
    some (.inl (28, [some (rV a0), some (rV a1), some (iV (w32 (a2 + 1))), some (iV (w32 (a3 + 1)))], [], w6))) else none) else none)
   else
   if kd w1 a1 = 4 then
   if (gv w1 a1 9) ≤ 23 ∧ (2 : Int) ≤ 23 then
   (if (gv w1 a1 9) = (2 : Int) then
    (if kd w1 a0 = 8 then
    bN (C 82 w1 [rV a0, rV a1]) (fun w7 =>
    if kd w7 a1 = 4 then
    bN (C 23 w7 [rV a1, iV 59]) (fun w8 =>
    some (.inl (28, [some (rV a0), some (rV a1), some (iV (w32 (a2 + 1))), some (iV (w32 (a3 + 1)))], [], w8))) else none) else none)
   else
   if kd w1 a1 = 4 then
   if (gv w1 a1 9) ≤ 23 ∧ (3 : Int) ≤ 23 then
   (if (gv w1 a1 9) = (3 : Int) then
    (if kd w1 a0 = 8 then
    bN (C 84 w1 [rV a0, rV a1]) (fun w9 =>
    if kd w9 a1 = 4 then
    bN (C 23 w9 [rV a1, iV 59]) (fun w10 =>
    some (.inl (28, [some (rV a0), some (rV a1), some (iV (w32 (a2 + 1))), some (iV (w32 (a3 + 1)))], [], w10))) else none) else none)
   else
   if kd w1 a1 = 4 then
   bN (C 20 w1 [rV a1, iV 1]) (fun w11 =>
   if kd w11 a1 = 4 then
   bN (C 23 w11 [rV a1, iV 59]) (fun w12 =>
   some (.inl (28, [some (rV a0), some (rV a1), some (iV (w32 (a2 + 1))), some (iV (w32 (a3 + 1)))], [], w12))) else none) else none) else none else none) else none else none) else none else none) else none)
  else
  some (.inr (some (iV a2), w)) := by
  rfl
set_option maxRecDepth 100000 in
theorem eX8_readLeaf_0 (C : sC) (w : sW) (a0 a1 a2 : Int) : sg C mX8_readLeaf 2000 0 [some (rV a0), some (rV a1), some (iV a2), none] [] w =
  if a2 = 0 then
   (if kd w a1 = 4 then
   bN (C 20 w [rV a1, iV 3]) (fun w1 =>
   some (.inr (none, w1))) else none)
  else
  if kd w a1 = 4 then
  bN (C 16 w [rV a1]) (fun w2 =>
  if kd w2 a1 = 4 then
  bI (C 25 w2 [rV a1, iV 4, iV 32]) (fun x4 w3 =>
  if x4 = (-1) then
   (some (.inr (none, w3)))
  else
  if kd w3 a0 = 8 then
  wl (sv w3 a0 4 x4) (fun w5 =>
  some (.inr (none, w5))) else none) else none) else none := by
  rfl
set_option maxRecDepth 100000 in
theorem eX8_readRow_0 (C : sC) (w : sW) (a0 a1 : Int) : sg C mX8_readRow 2000 0 [some (rV a0), some (rV a1), none, none] [] w =
  if kd w a0 = 8 then
  if (gv w a0 3) < 4 then
   (if kd w a1 = 4 then
   bN (C 16 w [rV a1]) (fun w1 =>
   if kd w1 a1 = 4 then
   bI (C 21 w1 [rV a1]) (fun x3 w2 =>
   if x3 = 0 then
    (if kd w2 a1 = 4 then
    bN (C 20 w2 [rV a1, iV 1]) (fun w4 =>
    some (.inr (none, w4))) else none)
   else
   if kd w2 a1 = 4 then
   if kd w2 a0 = 8 then
   bI (C 78 w2 [rV a0, lV (gv w2 a1 8)]) (fun x6 w5 =>
   if x6 = (-1) then
    (if kd w5 a0 = 8 then
    if kd w5 a0 = 8 then
    if kd w5 a1 = 4 then
    if kd w5 (gv w5 a0 1) = 22 ∧ 0 ≤ (gv w5 a0 3) ∧ (gv w5 a0 3) < ln w5 (gv w5 a0 1) then
    wl (sv w5 (gv w5 a0 1) (gv w5 a0 3) (gv w5 a1 8)) (fun w7 =>
    if kd w7 a0 = 8 then
    if kd w7 a0 = 8 then
    if (24 ≤ kd w7 (gv w7 a0 0) ∧ kd w7 (gv w7 a0 0) ≤ 27) ∧ 0 ≤ (gv w7 a0 3) ∧ (gv w7 a0 3) < ln w7 (gv w7 a0 0) then
    if kd w7 (gv w7 (gv w7 a0 0) (gv w7 a0 3)) = 5 then
    bN (C 30 w7 [rV (gv w7 (gv w7 a0 0) (gv w7 a0 3))]) (fun w8 =>
    if kd w8 a0 = 8 then
    if kd w8 a0 = 8 then
    wl (sv w8 a0 3 (w32 ((gv w8 a0 3) + 1))) (fun w9 =>
    if kd w9 a1 = 4 then
    bN (C 16 w9 [rV a1]) (fun w10 =>
    some (.inl (92, [some (rV a0), some (rV a1), some (rV (gv w7 (gv w7 a0 0) (gv w7 a0 3))), some (iV 0)], [], w10))) else none) else none else none) else none else none else none else none) else none else none else none else none)
   else
   if kd w5 a1 = 4 then
   bN (C 20 w5 [rV a1, iV 3]) (fun w11 =>
   some (.inr (none, w11))) else none) else none else none) else none) else none)
  else
  if kd w a1 = 4 then
  bN (C 20 w [rV a1, iV 4]) (fun w12 =>
  some (.inr (none, w12))) else none else none := by
  rfl
set_option maxRecDepth 100000 in
theorem eX8_readRow_92 (C : sC) (w : sW) (a0 a1 a2 a3 : Int) : sg C mX8_readRow 2000 92 [some (rV a0), some (rV a1), some (rV a2), some (iV a3)] [] w =
  if a3 < 940 then
   (if kd w a1 = 4 then
   if (gv w a1 10) = 0 then
    (if kd w a1 = 4 then
    if (gv w a1 4) = 2 then
     (if kd w a0 = 8 then
     bN (C 83 w [rV a0, rV a1, rV a2]) (fun w1 =>
     some (.inl (92, [some (rV a0), some (rV a1), some (rV a2), some (iV (w32 (a3 + 1)))], [], w1))) else none)
    else
    some (.inr (none, w)) else none)
   else
   some (.inr (none, w)) else none)
  else
  some (.inr (none, w)) := by
  rfl
set_option maxRecDepth 100000 in
theorem eX8_readBits_0 (C : sC) (w : sW) (a0 a1 a2 : Int) : sg C mX8_readBits 2000 0 [some (rV a0), some (rV a1), some (rV a2), none, none, none] [] w =
  if kd w a1 = 4 then
  bI (C 27 w [rV a1]) (fun x2 w1 =>
  some (.inl (8, [some (rV a0), some (rV a1), some (rV a2), some (iV x2), some (iV 0), none], [], w1))) else none := by
  rfl
set_option maxRecDepth 100000 in
theorem eX8_readBits_8 (C : sC) (w : sW) (a0 a1 a2 a3 a4 : Int) : sg C mX8_readBits 2000 8 [some (rV a0), some (rV a1), some (rV a2), some (iV a3), some (iV a4), none] [] w =
  if a4 < a3 then
   (if kd w a1 = 4 then
   bI (C 28 w [rV a1, iV a4]) (fun x2 w1 =>
   if x2 = 105 then
    (some (.inl (8, [some (rV a0), some (rV a1), some (rV a2), some (iV a3), some (iV (w32 (a4 + 1))), none], [], w1)))
   else
   if x2 = 111 then
    (some (.inl (8, [some (rV a0), some (rV a1), some (rV a2), some (iV a3), some (iV (w32 (a4 + 1))), none], [], w1)))
   else
   if kd w1 a1 = 4 then
   bN (C 20 w1 [rV a1, iV 2]) (fun w3 =>
   some (.inr (none, w3))) else none) else none)
  else
  if kd w a2 = 5 then
  if 600 < (w32 ((gv w a2 2) + a3)) then
   (if kd w a1 = 4 then
   bN (C 20 w [rV a1, iV 4]) (fun w4 =>
   some (.inr (none, w4))) else none)
  else
  some (.inl (69, [some (rV a0), some (rV a1), some (rV a2), some (iV a3), some (iV 0), none], [], w)) else none := by
  rfl
set_option maxRecDepth 100000 in
theorem eX8_readBits_69 (C : sC) (w : sW) (a0 a1 a2 a3 a4 : Int) : sg C mX8_readBits 2000 69 [some (rV a0), some (rV a1), some (rV a2), some (iV a3), some (iV a4), none] [] w =
  if a4 < a3 then
   (if kd w a2 = 5 then
   if kd w a1 = 4 then
   bI (C 28 w [rV a1, iV a4]) (fun x2 w1 =>
   if x2 = 105 then
    (if kd w1 a0 = 8 then
    if kd w1 a2 = 5 then
    bN (C 48 w1 [rV a2, iV (gv w a2 2), iV 1, iV (gv w1 a0 4)]) (fun w3 =>
    some (.inl (69, [some (rV a0), some (rV a1), some (rV a2), some (iV a3), some (iV (w32 (a4 + 1))), none], [], w3))) else none else none)
   else
   if kd w1 a0 = 8 then
   if kd w1 a2 = 5 then
   bN (C 48 w1 [rV a2, iV (gv w a2 2), iV 0, iV (gv w1 a0 4)]) (fun w4 =>
   some (.inl (69, [some (rV a0), some (rV a1), some (rV a2), some (iV a3), some (iV (w32 (a4 + 1))), none], [], w4))) else none else none) else none else none)
  else
  if kd w a1 = 4 then
  bN (C 16 w [rV a1]) (fun w5 =>
  some (.inr (none, w5))) else none := by
  rfl
set_option maxRecDepth 100000 in
theorem eX8_readLetters_0 (C : sC) (w : sW) (a0 a1 : Int) : sg C mX8_readLetters 2000 0 [some (rV a0), some (rV a1), none] [] w =
  if kd w a0 = 8 then
  if (gv w a0 5) = 0 then
   (if kd w a0 = 8 ∧ ((1 : Int) = 0 ∨ (1 : Int) = 1) then
   wl (sv w a0 5 1) (fun w1 =>
   if kd w1 a1 = 4 then
   bN (C 16 w1 [rV a1]) (fun w2 =>
   some (.inl (24, [some (rV a0), some (rV a1), some (iV 0)], [], w2))) else none) else none)
  else
  if kd w a1 = 4 then
  bN (C 20 w [rV a1, iV 3]) (fun w3 =>
  some (.inr (none, w3))) else none else none := by
  rfl
set_option maxRecDepth 100000 in
theorem eX8_readLetters_24 (C : sC) (w : sW) (a0 a1 a2 : Int) : sg C mX8_readLetters 2000 24 [some (rV a0), some (rV a1), some (iV a2)] [] w =
  if a2 < 940 then
   (if kd w a1 = 4 then
   if (gv w a1 10) = 0 then
    (if kd w a1 = 4 then
    if (gv w a1 4) = 2 then
     (if kd w a0 = 8 then
     bN (C 85 w [rV a0, rV a1]) (fun w1 =>
     some (.inl (24, [some (rV a0), some (rV a1), some (iV (w32 (a2 + 1)))], [], w1))) else none)
    else
    some (.inr (none, w)) else none)
   else
   some (.inr (none, w)) else none)
  else
  some (.inr (none, w)) := by
  rfl
set_option maxRecDepth 100000 in
theorem eX8_readLettersOfWord_0 (C : sC) (w : sW) (a0 a1 : Int) : sg C mX8_readLettersOfWord 2000 0 [some (rV a0), some (rV a1), none, none] [] w =
  if kd w a1 = 4 then
  bI (C 27 w [rV a1]) (fun x2 w1 =>
  some (.inl (7, [some (rV a0), some (rV a1), some (iV x2), some (iV 0)], [], w1))) else none := by
  rfl
set_option maxRecDepth 100000 in
theorem eX8_readLettersOfWord_7 (C : sC) (w : sW) (a0 a1 a2 a3 : Int) : sg C mX8_readLettersOfWord 2000 7 [some (rV a0), some (rV a1), some (iV a2), some (iV a3)] [] w =
  if a3 < a2 then
   (if kd w a1 = 4 then
   bI (C 28 w [rV a1, iV a3]) (fun x2 w1 =>
   bI (C 134 w1 [iV (w32 (x2 - 97))]) (fun x4 w3 =>
   if x4 = 0 then
    (if kd w3 a1 = 4 then
    bN (C 20 w3 [rV a1, iV 2]) (fun w5 =>
    some (.inr (none, w5))) else none)
   else
   some (.inl (7, [some (rV a0), some (rV a1), some (iV a2), some (iV (w32 (a3 + 1)))], [], w3)))) else none)
  else
  if kd w a0 = 8 then
  if kd w (gv w a0 2) = 6 then
  if 200 < (w32 ((gv w (gv w a0 2) 1) + a2)) then
   (if kd w a1 = 4 then
   bN (C 20 w [rV a1, iV 4]) (fun w6 =>
   some (.inr (none, w6))) else none)
  else
  some (.inl (61, [some (rV a0), some (rV a1), some (iV a2), some (iV 0)], [], w)) else none else none := by
  rfl
set_option maxRecDepth 100000 in
theorem eX8_readLettersOfWord_61 (C : sC) (w : sW) (a0 a1 a2 a3 : Int) : sg C mX8_readLettersOfWord 2000 61 [some (rV a0), some (rV a1), some (iV a2), some (iV a3)] [] w =
  if a3 < a2 then
   (if kd w a0 = 8 then
   if kd w a0 = 8 then
   if kd w (gv w a0 2) = 6 then
   if kd w a1 = 4 then
   bI (C 28 w [rV a1, iV a3]) (fun x2 w1 =>
   if kd w1 (gv w a0 2) = 6 then
   bN (C 62 w1 [rV (gv w a0 2), iV (gv w (gv w a0 2) 1), iV (w32 (x2 - 97))]) (fun w3 =>
   some (.inl (61, [some (rV a0), some (rV a1), some (iV a2), some (iV (w32 (a3 + 1)))], [], w3))) else none) else none else none else none else none)
  else
  if kd w a1 = 4 then
  bN (C 16 w [rV a1]) (fun w4 =>
  some (.inr (none, w4))) else none := by
  rfl
set_option maxRecDepth 100000 in
theorem eX8_whyNot_0 (C : sC) (w : sW) (a0 a1 a2 a3 a4 : Int) : sg C mX8_whyNot 2000 0 [some (rV a0), some (rV a1), some (iV a2), some (iV a3), some (iV a4), none] [] w =
  if a1 ≤ 23 ∧ (10 : Int) ≤ 23 then
  (if a1 = (10 : Int) then
   (if a2 < 0 then
    (some (.inr (some (iV 1), w)))
   else
   if kd w a0 = 8 then
   if kd w (gv w a0 2) = 6 then
   if (gv w (gv w a0 2) 1) < a2 then
    (some (.inr (some (iV 1), w)))
   else
   if kd w a0 = 8 then
   if kd w (gv w a0 2) = 6 then
   if (gv w (gv w a0 2) 1) < 200 then
    (some (.inr (some (iV 0), w)))
   else
   some (.inr (some (iV 2), w)) else none else none else none else none)
  else
  if a1 ≤ 23 ∧ (11 : Int) ≤ 23 then
  (if a1 = (11 : Int) then
   (if kd w a0 = 8 then
   if kd w (gv w a0 2) = 6 then
   bI (C 57 w [rV (gv w a0 2), iV a2, iV a3]) (fun x2 w1 =>
   if x2 = 0 then
    (some (.inr (some (iV 1), w1)))
   else
   some (.inr (some (iV 0), w1))) else none else none)
  else
  if kd w a0 = 8 then
  bR (C 77 w [rV a0, iV a2]) (fun r4 w3 =>
  if r4 = 0 then
   (some (.inr (some (iV 1), w3)))
  else
  if a1 ≤ 23 ∧ (8 : Int) ≤ 23 then
  (if a1 = (8 : Int) then
   (if kd w3 a0 = 8 then
   bR (C 77 w3 [rV a0, iV a3]) (fun r6 w5 =>
   bI (C 87 w5 [rV r6, iV 0, rV r4]) (fun x8 w7 =>
   some (.inr (some (iV x8), w7)))) else none)
  else
  if a1 ≤ 23 ∧ (9 : Int) ≤ 23 then
  (if a1 = (9 : Int) then
   (if kd w3 a0 = 8 then
   bR (C 77 w3 [rV a0, iV a4]) (fun r10 w9 =>
   bI (C 87 w9 [rV r4, iV a3, rV r10]) (fun x12 w11 =>
   some (.inr (some (iV x12), w11)))) else none)
  else
  if a1 ≤ 23 ∧ (4 : Int) ≤ 23 then
  (if a1 = (4 : Int) then
   (if kd w3 r4 = 5 then
   bI (C 32 w3 [rV r4, iV a3]) (fun x14 w13 =>
   if x14 = 0 then
    (some (.inr (some (iV 1), w13)))
   else
   if kd w13 r4 = 5 then
   if (gv w13 r4 2) < 600 then
    (some (.inr (some (iV 0), w13)))
   else
   some (.inr (some (iV 2), w13)) else none) else none)
  else
  if a1 ≤ 23 ∧ (5 : Int) ≤ 23 then
  (if a1 = (5 : Int) then
   (if kd w3 r4 = 5 then
   bI (C 34 w3 [rV r4, iV a3]) (fun x16 w15 =>
   if x16 = (-1) then
    (some (.inr (some (iV 1), w15)))
   else
   if kd w15 r4 = 5 then
   bI (C 34 w15 [rV r4, iV a3]) (fun x18 w17 =>
   if x18 = a4 then
    (some (.inr (some (iV 2), w17)))
   else
   some (.inr (some (iV 0), w17))) else none) else none)
  else
  if kd w3 r4 = 5 then
  bI (C 33 w3 [rV r4, iV a3, iV a4]) (fun x20 w19 =>
  if x20 = 0 then
   (some (.inr (some (iV 1), w19)))
  else
  some (.inr (some (iV 0), w19))) else none) else none) else none) else none) else none) else none) else none) else none := by
  rfl
set_option maxRecDepth 100000 in
theorem eX8_whyNotMoved_0 (C : sC) (w : sW) (a0 a1 a2 : Int) : sg C mX8_whyNotMoved 2000 0 [some (rV a0), some (iV a1), some (rV a2)] [] w =
  if a0 = 0 then
   (some (.inr (some (iV 1), w)))
  else
  if a2 = 0 then
   (some (.inr (some (iV 1), w)))
  else
  if kd w a0 = 5 then
  bI (C 34 w [rV a0, iV a1]) (fun x2 w1 =>
  if x2 = (-1) then
   (some (.inr (some (iV 1), w1)))
  else
  if kd w1 a2 = 5 then
  if kd w1 a0 = 5 then
  if 600 < (w32 ((w32 ((gv w1 a2 2) + (gv w1 a0 2))) - a1)) then
   (some (.inr (some (iV 2), w1)))
  else
  some (.inr (some (iV 0), w1)) else none else none) else none := by
  rfl
set_option maxRecDepth 100000 in
theorem eX8_act_0 (C : sC) (w : sW) (a0 a1 a2 a3 a4 : Int) : sg C mX8_act 2000 0 [some (rV a0), some (rV a1), some (iV a2), some (iV a3), some (iV a4), none, none] [] w =
  if a1 ≤ 23 ∧ (10 : Int) ≤ 23 then
  (if a1 = (10 : Int) then
   (if kd w a0 = 8 then
   if kd w (gv w a0 2) = 6 then
   bN (C 62 w [rV (gv w a0 2), iV a2, iV a3]) (fun w1 =>
   some (.inr (none, w1))) else none else none)
  else
  if a1 ≤ 23 ∧ (11 : Int) ≤ 23 then
  (if a1 = (11 : Int) then
   (if kd w a0 = 8 then
   if kd w (gv w a0 2) = 6 then
   bN (C 63 w [rV (gv w a0 2), iV a2, iV a3]) (fun w2 =>
   some (.inr (none, w2))) else none else none)
  else
  if kd w a0 = 8 then
  bR (C 77 w [rV a0, iV a2]) (fun r4 w3 =>
  if a1 ≤ 23 ∧ (8 : Int) ≤ 23 then
  (if a1 = (8 : Int) then
   (if kd w3 a0 = 8 then
   bR (C 77 w3 [rV a0, iV a3]) (fun r6 w5 =>
   some (.inl (74, [some (rV a0), some (rV a1), none, some (iV a3), some (iV a4), some (rV r4), none], [rV r6], w5))) else none)
  else
  if a1 ≤ 23 ∧ (9 : Int) ≤ 23 then
  (if a1 = (9 : Int) then
   (if kd w3 a0 = 8 then
   bR (C 77 w3 [rV a0, iV a4]) (fun r8 w7 =>
   some (.inl (74, [some (rV a0), some (rV a1), none, some (iV a3), some (iV a4), some (rV r4), none], [rV r8], w7))) else none)
  else
  some (.inl (74, [some (rV a0), some (rV a1), none, some (iV a3), some (iV a4), some (rV r4), none], [rV r4], w3))) else none) else none) else none) else none) else none := by
  rfl
set_option maxRecDepth 100000 in
theorem eX8_act_74 (C : sC) (w : sW) (a0 a1 a3 a4 a5 b0 : Int) : sg C mX8_act 2000 74 [some (rV a0), some (rV a1), none, some (iV a3), some (iV a4), some (rV a5), none] [rV b0] w =
  if a5 = 0 then
   (some (.inr (none, w)))
  else
  if b0 = 0 then
   (some (.inr (none, w)))
  else
  if a1 ≤ 23 ∧ (4 : Int) ≤ 23 then
  (if a1 = (4 : Int) then
   (if kd w a0 = 8 then
   if kd w a5 = 5 then
   bN (C 48 w [rV a5, iV a3, iV a4, iV (gv w a0 4)]) (fun w1 =>
   some (.inr (none, w1))) else none else none)
  else
  if a1 ≤ 23 ∧ (5 : Int) ≤ 23 then
  (if a1 = (5 : Int) then
   (if kd w a5 = 5 then
   bN (C 52 w [rV a5, iV a3, iV 1]) (fun w2 =>
   some (.inr (none, w2))) else none)
  else
  if a1 ≤ 23 ∧ (6 : Int) ≤ 23 then
  (if a1 = (6 : Int) then
   (if kd w a0 = 8 then
   if kd w a5 = 5 then
   bN (C 50 w [rV a5, iV a3, iV a4, iV (gv w a0 4)]) (fun w3 =>
   some (.inr (none, w3))) else none else none)
  else
  if a1 ≤ 23 ∧ (7 : Int) ≤ 23 then
  (if a1 = (7 : Int) then
   (if kd w a5 = 5 then
   bN (C 52 w [rV a5, iV a3, iV a4]) (fun w4 =>
   some (.inr (none, w4))) else none)
  else
  if a1 ≤ 23 ∧ (8 : Int) ≤ 23 then
  (if a1 = (8 : Int) then
   (if kd w a0 = 8 then
   if kd w a5 = 5 then
   bN (C 53 w [rV a5, rV b0, iV 0, iV (gv w a0 4)]) (fun w5 =>
   if kd w5 b0 = 5 then
   bN (C 30 w5 [rV b0]) (fun w6 =>
   some (.inr (none, w6))) else none) else none else none)
  else
  if a1 ≤ 23 ∧ (9 : Int) ≤ 23 then
  (if a1 = (9 : Int) then
   (if kd w a0 = 8 then
   if kd w b0 = 5 then
   bN (C 53 w [rV b0, rV a5, iV a3, iV (gv w a0 4)]) (fun w7 =>
   if kd w7 a5 = 5 then
   if kd w7 a0 = 8 then
   if kd w7 a5 = 5 then
   bN (C 50 w7 [rV a5, iV a3, iV (w32 ((gv w7 a5 2) - a3)), iV (gv w7 a0 4)]) (fun w8 =>
   some (.inr (none, w8))) else none else none else none) else none else none)
  else
  some (.inr (none, w))) else none) else none) else none) else none) else none) else none := by
  rfl
set_option maxRecDepth 100000 in
theorem eX9_height_0 (C : sC) (w : sW) (a0 : Int) : sg C mX9_height 2000 0 [some (iV a0), none, none] [] w =
  some (.inl (4, [none, some (iV 0), some (iV a0)], [], w)) := by
  rfl
set_option maxRecDepth 100000 in
theorem eX9_height_4 (C : sC) (w : sW) (a1 a2 : Int) : sg C mX9_height 2000 4 [none, some (iV a1), some (iV a2)] [] w =
  if 1 < a2 then
   (if (2 : Int) = 0 then none else
   some (.inl (4, [none, some (iV (w32 (a1 + 1))), some (iV (w32 (a2 - (w32 (Int.tdiv a2 2)))))], [], w)))
  else
  some (.inr (some (iV a1), w)) := by
  rfl
set_option maxRecDepth 100000 in
theorem eX9_inner_0 (C : sC) (w : sW) (a0 : Int) : sg C mX9_inner 2000 0 [some (iV a0)] [] w =
  if 1 < a0 then
   (some (.inr (some (iV (w32 (a0 - 1))), w)))
  else
  some (.inr (some (iV 0), w)) := by
  rfl
set_option maxRecDepth 100000 in
theorem eX9_mixed_0 (C : sC) (w : sW) (a0 : Int) : sg C mX9_mixed 2000 0 [some (iV a0)] [] w =
  bI (C 92 w [iV a0, iV 0]) (fun x2 w1 =>
  some (.inr (some (iV x2), w1))) := by
  rfl
set_option maxRecDepth 100000 in
theorem eX9_triples_0 (C : sC) (w : sW) (a0 a1 : Int) : sg C mX9_triples 2000 0 [some (iV a0), some (iV a1), none] [] w =
  if 3 < a0 then
   (if 20 < a1 then
    (if a0 = 3 then
     (some (.inr (some (iV 1), w)))
    else
    some (.inr (some (iV 0), w)))
   else
   if (2 : Int) = 0 then none else
   bI (C 92 w [iV (w32 (a0 - (w32 (Int.tdiv a0 2)))), iV (w32 (a1 + 1))]) (fun x2 w1 =>
   bI (C 92 w1 [iV (w32 (Int.tdiv a0 2)), iV (w32 (a1 + 1))]) (fun x4 w3 =>
   some (.inr (some (iV (w32 (x2 + x4))), w3)))))
  else
  if a0 = 3 then
   (some (.inr (some (iV 1), w)))
  else
  some (.inr (some (iV 0), w)) := by
  rfl
set_option maxRecDepth 100000 in
theorem eX9_cost_0 (C : sC) (w : sW) (a0 : Int) : sg C mX9_cost 2000 0 [some (rV a0), none, none] [] w =
  if kd w a0 = 5 then
  bI (C 90 w [iV (gv w a0 3)]) (fun x2 w1 =>
  some (.inl (12, [some (rV a0), some (iV (w32 (5 * x2))), some (iV 0)], [], w1))) else none := by
  rfl
set_option maxRecDepth 100000 in
theorem eX9_cost_12 (C : sC) (w : sW) (a0 a1 a2 : Int) : sg C mX9_cost 2000 12 [some (rV a0), some (iV a1), some (iV a2)] [] w =
  if kd w a0 = 5 then
  if a2 < (gv w a0 3) then
   (if kd w a0 = 5 then
   if kd w (gv w a0 1) = 20 ∧ 0 ≤ a2 ∧ a2 < ln w (gv w a0 1) then
   if (32 : Int) = 0 then none else
   some (.inl (12, [some (rV a0), some (iV (w32 (a1 + (w32 ((w32 (Int.tdiv (w32 ((gv w (gv w a0 1) a2) + 31)) 32)) + 4))))), some (iV (w32 (a2 + 1)))], [], w)) else none else none)
  else
  some (.inr (some (iV a1), w)) else none := by
  rfl
set_option maxRecDepth 100000 in
theorem eX10_withCode_0 (C : sC) (w : sW) (a0 : Int) : sg C mX10_withCode 2000 0 [some (lV a0), none, none] [] w =
  some (.inl (2, [some (lV a0), none, some (iV 0)], [], w)) := by
  rfl
set_option maxRecDepth 100000 in
theorem eX10_withCode_2 (C : sC) (w : sW) (a0 a2 : Int) : sg C mX10_withCode 2000 2 [some (lV a0), none, some (iV a2)] [] w =
  if 20 ≤ kd w 24 ∧ kd w 24 ≤ 27 then
  if a2 < (ln w 24) then
   (if (24 ≤ kd w 24 ∧ kd w 24 ≤ 27) ∧ 0 ≤ a2 ∧ a2 < ln w 24 then
   if kd w (gv w 24 a2) = 30 then
   if (cmpL (gv w (gv w 24 a2) 0) a0) = 0 then
    (if (24 ≤ kd w 24 ∧ kd w 24 ≤ 27) ∧ 0 ≤ a2 ∧ a2 < ln w 24 then
    some (.inr (some (rV (gv w 24 a2)), w)) else none)
   else
   some (.inl (2, [some (lV a0), none, some (iV (w32 (a2 + 1)))], [], w)) else none else none)
  else
  some (.inr (some (rV 0), w)) else none := by
  rfl
end
section
set_option maxRecDepth 100000 in
theorem eX11_init_0 (C : sC) (w : sW) (a0 : Int) : sg C mX11_init 2000 0 [some (rV a0)] [] w =
  if kd w a0 = 9 then
  if 0 ≤ (940 : Int) ∧ (940 : Int) ≤ 100000 then
  wl (al w 20 940 (Int.toNat 940)) (fun w1 =>
  if kd w1 a0 = 9 then
  wl (sv w1 a0 0 (nx w)) (fun w2 =>
  wl (al w2 4 0 12) (fun w3 =>
  if kd w3 (nx w2) = 4 then
  bN (C 14 w3 [rV (nx w2)]) (fun w4 =>
  if kd w4 a0 = 9 then
  wl (sv w4 a0 2 (nx w2)) (fun w5 =>
  wl (al w5 8 0 6) (fun w6 =>
  if kd w6 (nx w5) = 8 then
  bN (C 75 w6 [rV (nx w5)]) (fun w7 =>
  if kd w7 a0 = 9 then
  wl (sv w7 a0 3 (nx w5)) (fun w8 =>
  wl (al w8 8 0 6) (fun w9 =>
  if kd w9 (nx w8) = 8 then
  bN (C 75 w9 [rV (nx w8)]) (fun w10 =>
  if kd w10 a0 = 9 then
  wl (sv w10 a0 4 (nx w8)) (fun w11 =>
  wl (al w11 7 0 6) (fun w12 =>
  if kd w12 (nx w11) = 7 then
  bN (C 64 w12 [rV (nx w11)]) (fun w13 =>
  if kd w13 a0 = 9 then
  wl (sv w13 a0 5 (nx w11)) (fun w14 =>
  wl (al w14 7 0 6) (fun w15 =>
  if kd w15 (nx w14) = 7 then
  bN (C 64 w15 [rV (nx w14)]) (fun w16 =>
  if kd w16 a0 = 9 then
  wl (sv w16 a0 6 (nx w14)) (fun w17 =>
  wl (al w17 1 0 6) (fun w18 =>
  if kd w18 (nx w17) = 1 then
  bN (C 0 w18 [rV (nx w17)]) (fun w19 =>
  if kd w19 a0 = 9 then
  wl (sv w19 a0 7 (nx w17)) (fun w20 =>
  wl (al w20 3 0 3) (fun w21 =>
  if kd w21 (nx w20) = 3 then
  bN (C 10 w21 [rV (nx w20)]) (fun w22 =>
  if kd w22 a0 = 9 then
  wl (sv w22 a0 8 (nx w20)) (fun w23 =>
  if 0 ≤ (2 : Int) ∧ (2 : Int) ≤ 100000 then
  wl (al w23 25 2 (Int.toNat 2)) (fun w24 =>
  if kd w24 a0 = 9 then
  wl (sv w24 a0 9 (nx w23)) (fun w25 =>
  if 0 ≤ (2 : Int) ∧ (2 : Int) ≤ 100000 then
  wl (al w25 26 2 (Int.toNat 2)) (fun w26 =>
  if kd w26 a0 = 9 then
  wl (sv w26 a0 10 (nx w25)) (fun w27 =>
  if 0 ≤ (600 : Int) ∧ (600 : Int) ≤ 100000 then
  wl (al w27 20 600 (Int.toNat 600)) (fun w28 =>
  if kd w28 a0 = 9 then
  wl (sv w28 a0 11 (nx w27)) (fun w29 =>
  if 0 ≤ (4 : Int) ∧ (4 : Int) ≤ 100000 then
  wl (al w29 20 4 (Int.toNat 4)) (fun w30 =>
  if (kd w30 (nx w29) = 20 ∧ 32 ≤ (nx w29)) ∧ 0 ≤ (0 : Int) ∧ (0 : Int) < ln w30 (nx w29) then
  wl (sv w30 (nx w29) 0 (-1)) (fun w31 =>
  if (kd w31 (nx w29) = 20 ∧ 32 ≤ (nx w29)) ∧ 0 ≤ (1 : Int) ∧ (1 : Int) < ln w31 (nx w29) then
  wl (sv w31 (nx w29) 1 (-1)) (fun w32 =>
  if (kd w32 (nx w29) = 20 ∧ 32 ≤ (nx w29)) ∧ 0 ≤ (2 : Int) ∧ (2 : Int) < ln w32 (nx w29) then
  wl (sv w32 (nx w29) 2 (-1)) (fun w33 =>
  if (kd w33 (nx w29) = 20 ∧ 32 ≤ (nx w29)) ∧ 0 ≤ (3 : Int) ∧ (3 : Int) < ln w33 (nx w29) then
  wl (sv w33 (nx w29) 3 (-1)) (fun w34 =>
  if kd w34 a0 = 9 then
  wl (sv w34 a0 14 (nx w29)) (fun w35 =>
  some (.inr (none, w35))) else none) else none) else none) else none) else none) else none) else none) else none) else none) else none) else none) else none) else none) else none)) else none) else none)) else none) else none)) else none) else none)) else none) else none)) else none) else none)) else none) else none)) else none) else none else none := by
  rfl
set_option maxRecDepth 100000 in
theorem eX11_feed_0 (C : sC) (w : sW) (a0 a1 a2 a3 a4 a5 : Int) : sg C mX11_feed 2000 0 [some (rV a0), some (iV a1), some (iV a2), some (iV a3), some (iV a4), some (iV a5)] [] w =
  if kd w a0 = 9 then
  if 940 < (w32 ((gv w a0 1) + 20)) then
   (some (.inr (some (iV (-1)), w)))
  else
  if kd w a0 = 9 then
  bN (C 97 w [rV a0, iV a1]) (fun w1 =>
  if kd w1 a0 = 9 then
  bN (C 97 w1 [rV a0, iV a2]) (fun w2 =>
  if kd w2 a0 = 9 then
  bN (C 97 w2 [rV a0, iV a3]) (fun w3 =>
  if kd w3 a0 = 9 then
  bN (C 97 w3 [rV a0, iV a4]) (fun w4 =>
  if kd w4 a0 = 9 then
  bN (C 97 w4 [rV a0, iV a5]) (fun w5 =>
  if kd w5 a0 = 9 then
  some (.inr (some (iV (gv w5 a0 1)), w5)) else none) else none) else none) else none) else none) else none else none := by
  rfl
set_option maxRecDepth 100000 in
theorem eX11_feedBytes_0 (C : sC) (w : sW) (a0 a1 : Int) : sg C mX11_feedBytes 2000 0 [some (rV a0), some (iV a1), none] [] w =
  some (.inl (3, [some (rV a0), some (iV a1), some (iV 24)], [], w)) := by
  rfl
set_option maxRecDepth 100000 in
theorem eX11_feedBytes_3 (C : sC) (w : sW) (a0 a1 a2 : Int) : sg C mX11_feedBytes 2000 3 [some (rV a0), some (iV a1), some (iV a2)] [] w =
  if a2 < 0 then
   (some (.inr (none, w)))
  else
  if kd w a0 = 9 then
  if (gv w a0 1) < 940 then
   (if kd w a0 = 9 then
   if kd w a0 = 9 then
   if (kd w (gv w a0 0) = 20 ∧ 32 ≤ (gv w a0 0)) ∧ 0 ≤ (gv w a0 1) ∧ (gv w a0 1) < ln w (gv w a0 0) then
   wl (sv w (gv w a0 0) (gv w a0 1) (f_iand (f_iushr a1 a2) 255)) (fun w1 =>
   if kd w1 a0 = 9 then
   if kd w1 a0 = 9 then
   wl (sv w1 a0 1 (w32 ((gv w1 a0 1) + 1))) (fun w2 =>
   some (.inl (3, [some (rV a0), some (iV a1), some (iV (w32 (a2 + (-8))))], [], w2))) else none else none) else none else none else none)
  else
  some (.inr (none, w)) else none := by
  rfl
set_option maxRecDepth 100000 in
theorem eX11_end_0 (C : sC) (w : sW) (a0 a1 : Int) : sg C mX11_end 2000 0 [some (rV a0), some (iV a1)] [] w =
  if a1 < 0 then
   (some (.inr (some (iV 0), w)))
  else
  if kd w a0 = 9 then
  if (gv w a0 1) < a1 then
   (some (.inr (some (iV 0), w)))
  else
  if kd w a0 = 9 then
  wl (sv w a0 1 a1) (fun w1 =>
  some (.inr (some (iV 1), w1))) else none else none := by
  rfl
set_option maxRecDepth 100000 in
theorem eX11_room_0 (C : sC) (w : sW) (a0 : Int) : sg C mX11_room 2000 0 [some (rV a0), none] [] w =
  if kd w a0 = 9 then
  if kd w a0 = 9 then
  if kd w a0 = 9 then
  if kd w (gv w a0 2) = 4 then
  bN (C 15 w [rV (gv w a0 2), rV (gv w a0 0), iV (gv w a0 1), iV 900]) (fun w1 =>
  if kd w1 a0 = 9 then
  if kd w1 a0 = 9 then
  if kd w1 (gv w1 a0 4) = 8 then
  bI (C 80 w1 [rV (gv w1 a0 4), rV (gv w1 a0 2)]) (fun x3 w2 =>
  if kd w2 a0 = 9 then
  bI (C 100 w2 [rV a0]) (fun x5 w4 =>
  if x5 = 0 then
   (if kd w4 a0 = 9 then
   bN (C 101 w4 [rV a0]) (fun w6 =>
   if kd w6 a0 = 9 then
   if kd w6 (gv w6 a0 5) = 7 then
   bN (C 65 w6 [rV (gv w6 a0 5)]) (fun w7 =>
   if kd w7 a0 = 9 then
   if kd w7 (gv w7 a0 8) = 3 then
   bN (C 11 w7 [rV (gv w7 a0 8)]) (fun w8 =>
   some (.inr (some (iV x3), w8))) else none else none) else none else none) else none)
  else
  if kd w4 a0 = 9 then
  if kd w4 (gv w4 a0 2) = 4 then
  some (.inr (some (iV (w32 ((-1) - (gv w4 (gv w4 a0 2) 11)))), w4)) else none else none) else none) else none else none else none) else none else none else none else none := by
  rfl
set_option maxRecDepth 100000 in
theorem eX11_closesWithFault_0 (C : sC) (w : sW) (a0 : Int) : sg C mX11_closesWithFault 2000 0 [some (rV a0)] [] w =
  if kd w a0 = 9 then
  wl (sv w a0 1 0) (fun w1 =>
  if kd w1 a0 = 9 then
  if kd w1 (gv w1 a0 2) = 4 then
  if kd w1 a0 = 9 then
  wl (sv w1 a0 13 (gv w1 (gv w1 a0 2) 10)) (fun w2 =>
  if kd w2 a0 = 9 then
  if (gv w2 a0 13) = 0 then
   (some (.inr (some (iV 0), w2)))
  else
  some (.inr (some (iV 1), w2)) else none) else none else none else none) else none := by
  rfl
set_option maxRecDepth 100000 in
theorem eX11_swapStates_0 (C : sC) (w : sW) (a0 : Int) : sg C mX11_swapStates 2000 0 [some (rV a0), none] [] w =
  if kd w a0 = 9 then
  if kd w a0 = 9 then
  if kd w a0 = 9 then
  wl (sv w a0 3 (gv w a0 4)) (fun w1 =>
  if kd w1 a0 = 9 then
  wl (sv w1 a0 4 (gv w a0 3)) (fun w2 =>
  some (.inr (none, w2))) else none) else none else none else none := by
  rfl
set_option maxRecDepth 100000 in
theorem eX11_fault_0 (C : sC) (w : sW) (a0 : Int) : sg C mX11_fault 2000 0 [some (rV a0)] [] w =
  if kd w a0 = 9 then
  some (.inr (some (iV (gv w a0 13)), w)) else none := by
  rfl
set_option maxRecDepth 100000 in
theorem eX11_size_0 (C : sC) (w : sW) (a0 a1 : Int) : sg C mX11_size 2000 0 [some (rV a0), some (iV a1), none] [] w =
  if kd w a0 = 9 then
  if kd w (gv w a0 3) = 8 then
  bR (C 77 w [rV (gv w a0 3), iV a1]) (fun r2 w1 =>
  if r2 = 0 then
   (some (.inr (some (iV (-1)), w1)))
  else
  if kd w1 r2 = 5 then
  some (.inr (some (iV (gv w1 r2 2)), w1)) else none) else none else none := by
  rfl
set_option maxRecDepth 100000 in
theorem eX11_bit_0 (C : sC) (w : sW) (a0 a1 a2 : Int) : sg C mX11_bit 2000 0 [some (rV a0), some (iV a1), some (iV a2), none] [] w =
  if kd w a0 = 9 then
  if kd w (gv w a0 3) = 8 then
  bR (C 77 w [rV (gv w a0 3), iV a1]) (fun r2 w1 =>
  if r2 = 0 then
   (some (.inr (some (iV (-1)), w1)))
  else
  if kd w1 r2 = 5 then
  bI (C 34 w1 [rV r2, iV a2]) (fun x4 w3 =>
  some (.inr (some (iV x4), w3))) else none) else none else none := by
  rfl
set_option maxRecDepth 100000 in
theorem eX11_rank_0 (C : sC) (w : sW) (a0 a1 a2 a3 : Int) : sg C mX11_rank 2000 0 [some (rV a0), some (iV a1), some (iV a2), some (iV a3), none] [] w =
  if kd w a0 = 9 then
  if kd w (gv w a0 3) = 8 then
  bR (C 77 w [rV (gv w a0 3), iV a1]) (fun r2 w1 =>
  if r2 = 0 then
   (some (.inr (some (iV (-1)), w1)))
  else
  bI (C 106 w1 [iV a3]) (fun x4 w3 =>
  if x4 = 0 then
   (some (.inr (some (iV (-1)), w3)))
  else
  if kd w3 r2 = 5 then
  bI (C 32 w3 [rV r2, iV a2]) (fun x6 w5 =>
  if x6 = 0 then
   (some (.inr (some (iV (-1)), w5)))
  else
  if kd w5 r2 = 5 then
  bI (C 35 w5 [rV r2, iV 0, iV a2, iV a3]) (fun x8 w7 =>
  some (.inr (some (iV x8), w7))) else none) else none)) else none else none := by
  rfl
set_option maxRecDepth 100000 in
theorem eX11_isBit_0 (C : sC) (w : sW) (a0 : Int) : sg C mX11_isBit 2000 0 [some (iV a0)] [] w =
  if a0 = 0 then
   (some (.inr (some (iV 1), w)))
  else
  if a0 = 1 then
   (some (.inr (some (iV 1), w)))
  else
  some (.inr (some (iV 0), w)) := by
  rfl
set_option maxRecDepth 100000 in
theorem eX11_select_0 (C : sC) (w : sW) (a0 a1 a2 a3 : Int) : sg C mX11_select 2000 0 [some (rV a0), some (iV a1), some (iV a2), some (iV a3), none] [] w =
  if kd w a0 = 9 then
  if kd w (gv w a0 3) = 8 then
  bR (C 77 w [rV (gv w a0 3), iV a1]) (fun r2 w1 =>
  if r2 = 0 then
   (some (.inr (some (iV (-1)), w1)))
  else
  bI (C 106 w1 [iV a3]) (fun x4 w3 =>
  if x4 = 0 then
   (some (.inr (some (iV (-1)), w3)))
  else
  if a2 < 0 then
   (some (.inr (some (iV (-1)), w3)))
  else
  if kd w3 r2 = 5 then
  bI (C 36 w3 [rV r2, iV a2, iV a3]) (fun x6 w5 =>
  some (.inr (some (iV x6), w5))) else none)) else none else none := by
  rfl
set_option maxRecDepth 100000 in
theorem eX11_find_0 (C : sC) (w : sW) (a0 a1 a2 a3 : Int) : sg C mX11_find 2000 0 [some (rV a0), some (iV a1), some (iV a2), some (iV a3), none] [] w =
  if kd w a0 = 9 then
  if kd w (gv w a0 3) = 8 then
  bR (C 77 w [rV (gv w a0 3), iV a1]) (fun r2 w1 =>
  if r2 = 0 then
   (some (.inr (some (iV (-1)), w1)))
  else
  bI (C 106 w1 [iV a3]) (fun x4 w3 =>
  if x4 = 0 then
   (some (.inr (some (iV (-1)), w3)))
  else
  if a2 < 0 then
   (some (.inr (some (iV (-1)), w3)))
  else
  if kd w3 r2 = 5 then
  bI (C 37 w3 [rV r2, iV a2, iV a3]) (fun x6 w5 =>
  some (.inr (some (iV x6), w5))) else none)) else none else none := by
  rfl
set_option maxRecDepth 100000 in
theorem eX11_runs_0 (C : sC) (w : sW) (a0 a1 : Int) : sg C mX11_runs 2000 0 [some (rV a0), some (iV a1), none] [] w =
  if kd w a0 = 9 then
  if kd w (gv w a0 3) = 8 then
  bR (C 77 w [rV (gv w a0 3), iV a1]) (fun r2 w1 =>
  if r2 = 0 then
   (some (.inr (some (iV (-1)), w1)))
  else
  if kd w1 r2 = 5 then
  bI (C 38 w1 [rV r2]) (fun x4 w3 =>
  some (.inr (some (iV x4), w3))) else none) else none else none := by
  rfl
set_option maxRecDepth 100000 in
theorem eX11_longest_0 (C : sC) (w : sW) (a0 a1 a2 : Int) : sg C mX11_longest 2000 0 [some (rV a0), some (iV a1), some (iV a2), none] [] w =
  if kd w a0 = 9 then
  if kd w (gv w a0 3) = 8 then
  bR (C 77 w [rV (gv w a0 3), iV a1]) (fun r2 w1 =>
  if r2 = 0 then
   (some (.inr (some (iV (-1)), w1)))
  else
  bI (C 106 w1 [iV a2]) (fun x4 w3 =>
  if x4 = 0 then
   (some (.inr (some (iV (-1)), w3)))
  else
  if kd w3 r2 = 5 then
  bI (C 39 w3 [rV r2, iV a2]) (fun x6 w5 =>
  some (.inr (some (iV x6), w5))) else none)) else none else none := by
  rfl
set_option maxRecDepth 100000 in
theorem eX11_word_0 (C : sC) (w : sW) (a0 a1 a2 : Int) : sg C mX11_word 2000 0 [some (rV a0), some (iV a1), some (iV a2), none] [] w =
  if kd w a0 = 9 then
  if kd w (gv w a0 3) = 8 then
  bR (C 77 w [rV (gv w a0 3), iV a1]) (fun r2 w1 =>
  if r2 = 0 then
   (some (.inr (some (rV (-7)), bp w1 1 6)))
  else
  if kd w1 r2 = 5 then
  bI (C 32 w1 [rV r2, iV a2]) (fun x4 w3 =>
  if x4 = 0 then
   (some (.inr (some (rV (-7)), bp w3 1 6)))
  else
  if kd w3 r2 = 5 then
  bI (C 40 w3 [rV r2, iV a2]) (fun x6 w5 =>
  some (.inr (some (iV x6), w5))) else none) else none) else none else none := by
  rfl
set_option maxRecDepth 100000 in
theorem eX11_leaves_0 (C : sC) (w : sW) (a0 a1 : Int) : sg C mX11_leaves 2000 0 [some (rV a0), some (iV a1), none] [] w =
  if kd w a0 = 9 then
  if kd w (gv w a0 3) = 8 then
  bR (C 77 w [rV (gv w a0 3), iV a1]) (fun r2 w1 =>
  if r2 = 0 then
   (some (.inr (some (iV (-1)), w1)))
  else
  if kd w1 r2 = 5 then
  some (.inr (some (iV (gv w1 r2 3)), w1)) else none) else none else none := by
  rfl
set_option maxRecDepth 100000 in
theorem eX11_leaf_0 (C : sC) (w : sW) (a0 a1 a2 a3 : Int) : sg C mX11_leaf 2000 0 [some (rV a0), some (iV a1), some (iV a2), some (iV a3), none] [] w =
  if kd w a0 = 9 then
  if kd w (gv w a0 3) = 8 then
  bR (C 77 w [rV (gv w a0 3), iV a1]) (fun r2 w1 =>
  if r2 = 0 then
   (some (.inr (some (iV (-1)), w1)))
  else
  if a2 < 0 then
   (some (.inr (some (iV (-1)), w1)))
  else
  if kd w1 r2 = 5 then
  if a2 < (gv w1 r2 3) then
   (if a2 < 152 then
    (if a3 = 0 then
     (if kd w1 r2 = 5 then
     if kd w1 (gv w1 r2 1) = 20 ∧ 0 ≤ a2 ∧ a2 < ln w1 (gv w1 r2 1) then
     some (.inr (some (iV (gv w1 (gv w1 r2 1) a2)), w1)) else none else none)
    else if a3 = 1 then
     (if kd w1 r2 = 5 then
     bI (C 46 w1 [rV r2, iV a2]) (fun x4 w3 =>
     if kd w3 r2 = 5 then
     if kd w3 (gv w3 r2 1) = 20 ∧ 0 ≤ a2 ∧ a2 < ln w3 (gv w3 r2 1) then
     if kd w3 r2 = 5 then
     bI (C 35 w3 [rV r2, iV x4, iV (gv w3 (gv w3 r2 1) a2), iV 1]) (fun x6 w5 =>
     some (.inr (some (iV x6), w5))) else none else none else none) else none)
    else if a3 = 2 then
     (if kd w1 r2 = 5 then
     bI (C 46 w1 [rV r2, iV a2]) (fun x8 w7 =>
     some (.inr (some (iV x8), w7))) else none)
    else some (.inr (some (iV (-1)), w1)))
   else
   some (.inr (some (iV (-1)), w1)))
  else
  some (.inr (some (iV (-1)), w1)) else none) else none else none := by
  rfl
set_option maxRecDepth 100000 in
theorem eX11_tree_0 (C : sC) (w : sW) (a0 a1 a2 : Int) : sg C mX11_tree 2000 0 [some (rV a0), some (iV a1), some (iV a2), none] [] w =
  if kd w a0 = 9 then
  if kd w (gv w a0 3) = 8 then
  bR (C 77 w [rV (gv w a0 3), iV a1]) (fun r2 w1 =>
  if r2 = 0 then
   (some (.inr (some (iV (-1)), w1)))
  else
  if a2 = 0 then
   (if kd w1 r2 = 5 then
   bI (C 89 w1 [iV (gv w1 r2 3)]) (fun x4 w3 =>
   some (.inr (some (iV x4), w3))) else none)
  else if a2 = 1 then
   (if kd w1 r2 = 5 then
   bI (C 90 w1 [iV (gv w1 r2 3)]) (fun x6 w5 =>
   some (.inr (some (iV x6), w5))) else none)
  else if a2 = 2 then
   (if kd w1 r2 = 5 then
   bI (C 91 w1 [iV (gv w1 r2 3)]) (fun x8 w7 =>
   some (.inr (some (iV x8), w7))) else none)
  else if a2 = 3 then
   (bI (C 93 w1 [rV r2]) (fun x10 w9 =>
   some (.inr (some (iV x10), w9))))
  else some (.inr (some (iV (-1)), w1))) else none else none := by
  rfl
set_option maxRecDepth 100000 in
theorem eX11_dense_0 (C : sC) (w : sW) (a0 a1 a2 a3 : Int) : sg C mX11_dense 2000 0 [some (rV a0), some (iV a1), some (iV a2), some (iV a3), none] [] w =
  if kd w a0 = 9 then
  if kd w (gv w a0 3) = 8 then
  bR (C 77 w [rV (gv w a0 3), iV a1]) (fun r2 w1 =>
  if r2 = 0 then
   (some (.inr (some (rV (-7)), bp w1 1 6)))
  else
  if a3 < 1 then
   (some (.inr (some (rV (-7)), bp w1 1 6)))
  else
  if kd w1 r2 = 5 then
  bI (C 33 w1 [rV r2, iV a2, iV a3]) (fun x4 w3 =>
  if x4 = 0 then
   (some (.inr (some (rV (-7)), bp w3 1 6)))
  else
  if kd w3 r2 = 5 then
  bI (C 35 w3 [rV r2, iV a2, iV a3, iV 1]) (fun x6 w5 =>
  bL (C 9 w5 [lV x6, lV a3, iV 24, iV 127]) (fun y8 w7 =>
  some (.inr (some (iV (w32 y8)), w7)))) else none) else none) else none else none := by
  rfl
set_option maxRecDepth 100000 in
theorem eX11_load_0 (C : sC) (w : sW) (a0 a1 : Int) : sg C mX11_load 2000 0 [some (rV a0), some (iV a1), none] [] w =
  if kd w a0 = 9 then
  if kd w (gv w a0 3) = 8 then
  bR (C 77 w [rV (gv w a0 3), iV a1]) (fun r2 w1 =>
  if r2 = 0 then
   (some (.inr (some (rV (-7)), bp w1 1 6)))
  else
  if kd w1 r2 = 5 then
  if (gv w1 r2 2) = 0 then
   (some (.inr (some (rV (-7)), bp w1 1 6)))
  else
  bI (C 93 w1 [rV r2]) (fun x4 w3 =>
  if kd w3 r2 = 5 then
  bL (C 9 w3 [lV (w32 (32 * x4)), lV (gv w3 r2 2), iV 24, iV 127]) (fun y6 w5 =>
  some (.inr (some (iV (w32 y6)), w5))) else none) else none) else none else none := by
  rfl
set_option maxRecDepth 100000 in
theorem eX11_centre_0 (C : sC) (w : sW) (a0 a1 a2 : Int) : sg C mX11_centre 2000 0 [some (rV a0), some (iV a1), some (iV a2), none, none, none, none] [] w =
  if kd w a0 = 9 then
  if kd w (gv w a0 3) = 8 then
  bR (C 77 w [rV (gv w a0 3), iV a1]) (fun r2 w1 =>
  if r2 = 0 then
   (if r2 = 0 then
    (some (.inr (some (rV (-7)), bp w1 1 6)))
   else
   if (0 : Int) = 0 then
    (some (.inr (some (rV (-7)), bp w1 1 6)))
   else
   bI (C 106 w1 [iV a2]) (fun x4 w3 =>
   if x4 = 0 then
    (some (.inr (some (rV (-7)), bp w3 1 6)))
   else
   if kd w3 r2 = 5 then
   bI (C 41 w3 [rV r2]) (fun x6 w5 =>
   bL (C 9 w5 [lV x6, lV 0, iV 53, iV 1023]) (fun y8 w7 =>
   if a2 = 0 then
    (some (.inr (some (iV (w32 (f_lushr y8 32))), w7)))
   else
   some (.inr (some (iV (w32 y8)), w7)))) else none))
  else
  if kd w1 r2 = 5 then
  if kd w1 r2 = 5 then
  bI (C 35 w1 [rV r2, iV 0, iV (gv w1 r2 2), iV 1]) (fun x10 w9 =>
  if r2 = 0 then
   (some (.inr (some (rV (-7)), bp w9 1 6)))
  else
  if x10 = 0 then
   (some (.inr (some (rV (-7)), bp w9 1 6)))
  else
  bI (C 106 w9 [iV a2]) (fun x12 w11 =>
  if x12 = 0 then
   (some (.inr (some (rV (-7)), bp w11 1 6)))
  else
  if kd w11 r2 = 5 then
  bI (C 41 w11 [rV r2]) (fun x14 w13 =>
  bL (C 9 w13 [lV x14, lV x10, iV 53, iV 1023]) (fun y16 w15 =>
  if a2 = 0 then
   (some (.inr (some (iV (w32 (f_lushr y16 32))), w15)))
  else
  some (.inr (some (iV (w32 y16)), w15)))) else none)) else none else none) else none else none := by
  rfl
set_option maxRecDepth 100000 in
theorem eX11_apart_0 (C : sC) (w : sW) (a0 a1 a2 : Int) : sg C mX11_apart 2000 0 [some (rV a0), some (iV a1), some (iV a2), none, none] [] w =
  if kd w a0 = 9 then
  if kd w (gv w a0 3) = 8 then
  bR (C 77 w [rV (gv w a0 3), iV a1]) (fun r2 w1 =>
  if kd w1 a0 = 9 then
  if kd w1 (gv w1 a0 3) = 8 then
  bR (C 77 w1 [rV (gv w1 a0 3), iV a2]) (fun r4 w3 =>
  if r2 = 0 then
   (some (.inr (some (iV (-1)), w3)))
  else
  if r4 = 0 then
   (some (.inr (some (iV (-1)), w3)))
  else
  if kd w3 r2 = 5 then
  bI (C 42 w3 [rV r2, rV r4]) (fun x6 w5 =>
  some (.inr (some (iV x6), w5))) else none) else none else none) else none else none := by
  rfl
set_option maxRecDepth 100000 in
theorem eX11_differ_0 (C : sC) (w : sW) (a0 a1 a2 : Int) : sg C mX11_differ 2000 0 [some (rV a0), some (iV a1), some (iV a2), none, none] [] w =
  if kd w a0 = 9 then
  if kd w (gv w a0 3) = 8 then
  bR (C 77 w [rV (gv w a0 3), iV a1]) (fun r2 w1 =>
  if kd w1 a0 = 9 then
  if kd w1 (gv w1 a0 3) = 8 then
  bR (C 77 w1 [rV (gv w1 a0 3), iV a2]) (fun r4 w3 =>
  if r2 = 0 then
   (some (.inr (some (iV (-1)), w3)))
  else
  if r4 = 0 then
   (some (.inr (some (iV (-1)), w3)))
  else
  if kd w3 r2 = 5 then
  bI (C 43 w3 [rV r2, rV r4]) (fun x6 w5 =>
  some (.inr (some (iV x6), w5))) else none) else none else none) else none else none := by
  rfl
set_option maxRecDepth 100000 in
theorem eX11_seek_0 (C : sC) (w : sW) (a0 a1 : Int) : sg C mX11_seek 2000 0 [some (rV a0), some (iV a1), none, none, none] [] w =
  if kd w a0 = 9 then
  bI (C 121 w [rV a0, iV 32]) (fun x2 w1 =>
  if kd w1 a0 = 9 then
  if kd w1 (gv w1 a0 3) = 8 then
  bR (C 77 w1 [rV (gv w1 a0 3), iV a1]) (fun r4 w3 =>
  if r4 = 0 then
   (some (.inr (some (iV (-1)), w3)))
  else
  if x2 = (-1) then
   (some (.inr (some (iV (-1)), w3)))
  else
  if kd w3 a0 = 9 then
  wl (sv w3 a0 12 0) (fun w5 =>
  some (.inl (35, [some (rV a0), none, some (iV x2), some (rV r4), some (iV 0)], [], w5))) else none) else none else none) else none := by
  rfl
set_option maxRecDepth 100000 in
theorem eX11_seek_35 (C : sC) (w : sW) (a0 a2 a3 a4 : Int) : sg C mX11_seek 2000 35 [some (rV a0), none, some (iV a2), some (rV a3), some (iV a4)] [] w =
  if kd w a3 = 5 then
  if (gv w a3 2) < (w32 (a4 + a2)) then
   (if kd w a0 = 9 then
   some (.inr (some (iV (gv w a0 12)), w)) else none)
  else
  if kd w a0 = 9 then
  if kd w a3 = 5 then
  bI (C 45 w [rV a3, iV a4, rV (gv w a0 0), iV a2]) (fun x2 w1 =>
  if x2 = 0 then
   (some (.inl (35, [some (rV a0), none, some (iV a2), some (rV a3), some (iV (w32 (a4 + 1)))], [], w1)))
  else
  if kd w1 a0 = 9 then
  if kd w1 a0 = 9 then
  if (kd w1 (gv w1 a0 11) = 20 ∧ 32 ≤ (gv w1 a0 11)) ∧ 0 ≤ (gv w1 a0 12) ∧ (gv w1 a0 12) < ln w1 (gv w1 a0 11) then
  wl (sv w1 (gv w1 a0 11) (gv w1 a0 12) a4) (fun w3 =>
  if kd w3 a0 = 9 then
  if kd w3 a0 = 9 then
  wl (sv w3 a0 12 (w32 ((gv w3 a0 12) + 1))) (fun w4 =>
  some (.inl (35, [some (rV a0), none, some (iV a2), some (rV a3), some (iV (w32 (a4 + 1)))], [], w4))) else none else none) else none else none else none) else none else none else none := by
  rfl
set_option maxRecDepth 100000 in
theorem eX11_takeBitsOfTape_0 (C : sC) (w : sW) (a0 a1 : Int) : sg C mX11_takeBitsOfTape 2000 0 [some (rV a0), some (iV a1), none, none] [] w =
  if kd w a0 = 9 then
  if kd w a0 = 9 then
  wl (sv w a0 1 0) (fun w1 =>
  if (gv w a0 1) < 1 then
   (some (.inr (some (iV (-1)), w1)))
  else
  if a1 < (gv w a0 1) then
   (some (.inr (some (iV (-1)), w1)))
  else
  some (.inl (24, [some (rV a0), none, some (iV (gv w a0 1)), some (iV 0)], [], w1))) else none else none := by
  rfl
set_option maxRecDepth 100000 in
theorem eX11_takeBitsOfTape_24 (C : sC) (w : sW) (a0 a2 a3 : Int) : sg C mX11_takeBitsOfTape 2000 24 [some (rV a0), none, some (iV a2), some (iV a3)] [] w =
  if a3 < a2 then
   (if kd w a0 = 9 then
   if kd w (gv w a0 0) = 20 ∧ 0 ≤ a3 ∧ a3 < ln w (gv w a0 0) then
   bI (C 106 w [iV (gv w (gv w a0 0) a3)]) (fun x2 w1 =>
   if x2 = 0 then
    (some (.inr (some (iV (-1)), w1)))
   else
   some (.inl (24, [some (rV a0), none, some (iV a2), some (iV (w32 (a3 + 1)))], [], w1))) else none else none)
  else
  some (.inr (some (iV a2), w)) := by
  rfl
set_option maxRecDepth 100000 in
theorem eX11_seekAt_0 (C : sC) (w : sW) (a0 a1 : Int) : sg C mX11_seekAt 2000 0 [some (rV a0), some (iV a1)] [] w =
  if a1 < 0 then
   (some (.inr (some (iV (-1)), w)))
  else
  if kd w a0 = 9 then
  if a1 < (gv w a0 12) then
   (if a1 < 600 then
    (if kd w a0 = 9 then
    if kd w (gv w a0 11) = 20 ∧ 0 ≤ a1 ∧ a1 < ln w (gv w a0 11) then
    some (.inr (some (iV (gv w (gv w a0 11) a1)), w)) else none else none)
   else
   some (.inr (some (iV (-1)), w)))
  else
  some (.inr (some (iV (-1)), w)) else none := by
  rfl
set_option maxRecDepth 100000 in
theorem eX11_put_0 (C : sC) (w : sW) (a0 a1 a2 a3 : Int) : sg C mX11_put 2000 0 [some (rV a0), some (iV a1), some (iV a2), some (iV a3)] [] w =
  if kd w a0 = 9 then
  if kd w (gv w a0 3) = 8 then
  bR (C 77 w [rV (gv w a0 3), iV a1]) (fun r2 w1 =>
  if r2 = 0 then
   (some (.inr (some (iV (-1)), w1)))
  else
  bI (C 106 w1 [iV a3]) (fun x4 w3 =>
  if x4 = 0 then
   (some (.inr (some (iV (-1)), w3)))
  else
  if kd w3 a0 = 9 then
  bI (C 124 w3 [rV a0, rV 4, iV a1, iV a2, iV a3]) (fun x6 w5 =>
  some (.inr (some (iV x6), w5))) else none)) else none else none := by
  rfl
set_option maxRecDepth 100000 in
theorem eX11_does_0 (C : sC) (w : sW) (a0 a1 a2 a3 a4 : Int) : sg C mX11_does 2000 0 [some (rV a0), some (rV a1), some (iV a2), some (iV a3), some (iV a4), none] [] w =
  if kd w a0 = 9 then
  if kd w (gv w a0 3) = 8 then
  bI (C 86 w [rV (gv w a0 3), rV a1, iV a2, iV a3, iV a4]) (fun x2 w1 =>
  if x2 = 0 then
   (if kd w1 a0 = 9 then
   if kd w1 a0 = 9 then
   if kd w1 (gv w1 a0 8) = 3 then
   bN (C 12 w1 [rV (gv w1 a0 8), rV (gv w1 a0 3)]) (fun w3 =>
   if kd w3 a0 = 9 then
   if kd w3 (gv w3 a0 3) = 8 then
   bN (C 88 w3 [rV (gv w3 a0 3), rV a1, iV a2, iV a3, iV a4]) (fun w4 =>
   some (.inr (some (iV x2), w4))) else none else none) else none else none else none)
  else
  some (.inr (some (iV x2), w1))) else none else none := by
  rfl
set_option maxRecDepth 100000 in
theorem eX11_set_0 (C : sC) (w : sW) (a0 a1 a2 a3 : Int) : sg C mX11_set 2000 0 [some (rV a0), some (iV a1), some (iV a2), some (iV a3)] [] w =
  if kd w a0 = 9 then
  if kd w (gv w a0 3) = 8 then
  bR (C 77 w [rV (gv w a0 3), iV a1]) (fun r2 w1 =>
  if r2 = 0 then
   (some (.inr (some (iV (-1)), w1)))
  else
  bI (C 106 w1 [iV a3]) (fun x4 w3 =>
  if x4 = 0 then
   (some (.inr (some (iV (-1)), w3)))
  else
  if kd w3 a0 = 9 then
  bI (C 124 w3 [rV a0, rV 5, iV a1, iV a2, iV a3]) (fun x6 w5 =>
  some (.inr (some (iV x6), w5))) else none)) else none else none := by
  rfl
set_option maxRecDepth 100000 in
theorem eX11_cut_0 (C : sC) (w : sW) (a0 a1 a2 a3 : Int) : sg C mX11_cut 2000 0 [some (rV a0), some (iV a1), some (iV a2), some (iV a3)] [] w =
  if kd w a0 = 9 then
  if kd w (gv w a0 3) = 8 then
  bR (C 77 w [rV (gv w a0 3), iV a1]) (fun r2 w1 =>
  if r2 = 0 then
   (some (.inr (some (iV (-1)), w1)))
  else
  if a3 < 1 then
   (some (.inr (some (iV (-1)), w1)))
  else
  if 600 < a3 then
   (some (.inr (some (iV (-1)), w1)))
  else
  if kd w1 a0 = 9 then
  bI (C 124 w1 [rV a0, rV 6, iV a1, iV a2, iV a3]) (fun x4 w3 =>
  some (.inr (some (iV x4), w3))) else none) else none else none := by
  rfl
set_option maxRecDepth 100000 in
theorem eX11_turn_0 (C : sC) (w : sW) (a0 a1 a2 a3 : Int) : sg C mX11_turn 2000 0 [some (rV a0), some (iV a1), some (iV a2), some (iV a3)] [] w =
  if kd w a0 = 9 then
  if kd w (gv w a0 3) = 8 then
  bR (C 77 w [rV (gv w a0 3), iV a1]) (fun r2 w1 =>
  if r2 = 0 then
   (some (.inr (some (iV (-1)), w1)))
  else
  if a3 < 1 then
   (some (.inr (some (iV (-1)), w1)))
  else
  if 600 < a3 then
   (some (.inr (some (iV (-1)), w1)))
  else
  if kd w1 a0 = 9 then
  bI (C 124 w1 [rV a0, rV 7, iV a1, iV a2, iV a3]) (fun x4 w3 =>
  some (.inr (some (iV x4), w3))) else none) else none else none := by
  rfl
set_option maxRecDepth 100000 in
theorem eX11_paste_0 (C : sC) (w : sW) (a0 a1 a2 : Int) : sg C mX11_paste 2000 0 [some (rV a0), some (iV a1), some (iV a2), none, none, none] [] w =
  if kd w a0 = 9 then
  bI (C 121 w [rV a0, iV 64]) (fun x2 w1 =>
  if kd w1 a0 = 9 then
  if kd w1 (gv w1 a0 3) = 8 then
  bR (C 77 w1 [rV (gv w1 a0 3), iV a1]) (fun r4 w3 =>
  if r4 = 0 then
   (some (.inr (some (iV (-1)), w3)))
  else
  if x2 = (-1) then
   (some (.inr (some (iV (-1)), w3)))
  else
  if kd w3 r4 = 5 then
  bI (C 32 w3 [rV r4, iV a2]) (fun x6 w5 =>
  if x6 = 0 then
   (some (.inr (some (iV 1), w5)))
  else
  if kd w5 r4 = 5 then
  if 600 < (w32 ((gv w5 r4 2) + x2)) then
   (some (.inr (some (iV 2), w5)))
  else
  if kd w5 a0 = 9 then
  if kd w5 a0 = 9 then
  if kd w5 (gv w5 a0 8) = 3 then
  bN (C 12 w5 [rV (gv w5 a0 8), rV (gv w5 a0 3)]) (fun w7 =>
  some (.inl (69, [some (rV a0), none, some (iV a2), some (iV x2), some (rV r4), some (iV 0)], [], w7))) else none else none else none else none) else none) else none else none) else none := by
  rfl
set_option maxRecDepth 100000 in
theorem eX11_paste_69 (C : sC) (w : sW) (a0 a2 a3 a4 a5 : Int) : sg C mX11_paste 2000 69 [some (rV a0), none, some (iV a2), some (iV a3), some (rV a4), some (iV a5)] [] w =
  if a5 < a3 then
   (if kd w a0 = 9 then
   if kd w (gv w a0 0) = 20 ∧ 0 ≤ a5 ∧ a5 < ln w (gv w a0 0) then
   if kd w a0 = 9 then
   if kd w (gv w a0 3) = 8 then
   if kd w a4 = 5 then
   bN (C 48 w [rV a4, iV (w32 (a2 + a5)), iV (gv w (gv w a0 0) a5), iV (gv w (gv w a0 3) 4)]) (fun w1 =>
   some (.inl (69, [some (rV a0), none, some (iV a2), some (iV a3), some (rV a4), some (iV (w32 (a5 + 1)))], [], w1))) else none else none else none else none else none)
  else
  some (.inr (some (iV 0), w)) := by
  rfl
set_option maxRecDepth 100000 in
theorem eX11_join_0 (C : sC) (w : sW) (a0 a1 a2 : Int) : sg C mX11_join 2000 0 [some (rV a0), some (iV a1), some (iV a2)] [] w =
  if kd w a0 = 9 then
  if kd w (gv w a0 3) = 8 then
  bR (C 77 w [rV (gv w a0 3), iV a1]) (fun r2 w1 =>
  if r2 = 0 then
   (some (.inr (some (iV (-1)), w1)))
  else
  if kd w1 a0 = 9 then
  if kd w1 (gv w1 a0 3) = 8 then
  bR (C 77 w1 [rV (gv w1 a0 3), iV a2]) (fun r4 w3 =>
  if r4 = 0 then
   (some (.inr (some (iV (-1)), w3)))
  else
  if a1 = a2 then
   (some (.inr (some (iV (-1)), w3)))
  else
  if kd w3 a0 = 9 then
  bI (C 124 w3 [rV a0, rV 8, iV a1, iV a2, iV 0]) (fun x6 w5 =>
  some (.inr (some (iV x6), w5))) else none) else none else none) else none else none := by
  rfl
set_option maxRecDepth 100000 in
theorem eX11_split_0 (C : sC) (w : sW) (a0 a1 a2 a3 : Int) : sg C mX11_split 2000 0 [some (rV a0), some (iV a1), some (iV a2), some (iV a3)] [] w =
  if kd w a0 = 9 then
  if kd w (gv w a0 3) = 8 then
  bR (C 77 w [rV (gv w a0 3), iV a1]) (fun r2 w1 =>
  if r2 = 0 then
   (some (.inr (some (iV (-1)), w1)))
  else
  if kd w1 a0 = 9 then
  if kd w1 (gv w1 a0 3) = 8 then
  bR (C 77 w1 [rV (gv w1 a0 3), iV a3]) (fun r4 w3 =>
  if r4 = 0 then
   (some (.inr (some (iV (-1)), w3)))
  else
  if a1 = a3 then
   (some (.inr (some (iV (-1)), w3)))
  else
  if kd w3 a0 = 9 then
  bI (C 124 w3 [rV a0, rV 9, iV a1, iV a2, iV a3]) (fun x6 w5 =>
  some (.inr (some (iV x6), w5))) else none) else none else none) else none else none := by
  rfl
set_option maxRecDepth 100000 in
theorem eX11_letters_0 (C : sC) (w : sW) (a0 : Int) : sg C mX11_letters 2000 0 [some (rV a0)] [] w =
  if kd w a0 = 9 then
  if kd w (gv w a0 3) = 8 then
  if kd w (gv w (gv w a0 3) 2) = 6 then
  some (.inr (some (iV (gv w (gv w (gv w a0 3) 2) 1)), w)) else none else none else none := by
  rfl
set_option maxRecDepth 100000 in
theorem eX11_letter_0 (C : sC) (w : sW) (a0 a1 : Int) : sg C mX11_letter 2000 0 [some (rV a0), some (iV a1)] [] w =
  if kd w a0 = 9 then
  if kd w (gv w a0 3) = 8 then
  if kd w (gv w (gv w a0 3) 2) = 6 then
  bI (C 56 w [rV (gv w (gv w a0 3) 2), iV a1]) (fun x2 w1 =>
  some (.inr (some (iV x2), w1))) else none else none else none := by
  rfl
set_option maxRecDepth 100000 in
theorem eX11_count_0 (C : sC) (w : sW) (a0 a1 a2 : Int) : sg C mX11_count 2000 0 [some (rV a0), some (iV a1), some (iV a2)] [] w =
  bI (C 134 w [iV a1]) (fun x2 w1 =>
  if x2 = 0 then
   (some (.inr (some (iV (-1)), w1)))
  else
  if a2 < 0 then
   (some (.inr (some (iV (-1)), w1)))
  else
  if kd w1 a0 = 9 then
  if kd w1 (gv w1 a0 3) = 8 then
  if kd w1 (gv w1 (gv w1 a0 3) 2) = 6 then
  if (gv w1 (gv w1 (gv w1 a0 3) 2) 1) < a2 then
   (some (.inr (some (iV (-1)), w1)))
  else
  if kd w1 a0 = 9 then
  if kd w1 (gv w1 a0 3) = 8 then
  if kd w1 (gv w1 (gv w1 a0 3) 2) = 6 then
  bI (C 58 w1 [rV (gv w1 (gv w1 a0 3) 2), iV 0, iV a2, iV a1]) (fun x4 w3 =>
  some (.inr (some (iV x4), w3))) else none else none else none else none else none else none) := by
  rfl
set_option maxRecDepth 100000 in
theorem eX11_isLetter_0 (C : sC) (w : sW) (a0 : Int) : sg C mX11_isLetter 2000 0 [some (iV a0)] [] w =
  if a0 < 0 then
   (some (.inr (some (iV 0), w)))
  else
  if a0 < 8 then
   (some (.inr (some (iV 1), w)))
  else
  some (.inr (some (iV 0), w)) := by
  rfl
set_option maxRecDepth 100000 in
theorem eX11_place_0 (C : sC) (w : sW) (a0 a1 a2 : Int) : sg C mX11_place 2000 0 [some (rV a0), some (iV a1), some (iV a2)] [] w =
  bI (C 134 w [iV a1]) (fun x2 w1 =>
  if x2 = 0 then
   (some (.inr (some (iV (-1)), w1)))
  else
  if a2 < 0 then
   (some (.inr (some (iV (-1)), w1)))
  else
  if kd w1 a0 = 9 then
  if kd w1 (gv w1 a0 3) = 8 then
  if kd w1 (gv w1 (gv w1 a0 3) 2) = 6 then
  bI (C 59 w1 [rV (gv w1 (gv w1 a0 3) 2), iV a1, iV a2]) (fun x4 w3 =>
  some (.inr (some (iV x4), w3))) else none else none else none) := by
  rfl
set_option maxRecDepth 100000 in
theorem eX11_least_0 (C : sC) (w : sW) (a0 a1 a2 a3 : Int) : sg C mX11_least 2000 0 [some (rV a0), some (iV a1), some (iV a2), some (iV a3)] [] w =
  if a1 < 0 then
   (some (.inr (some (iV (-1)), w)))
  else
  if a2 < a1 then
   (some (.inr (some (iV (-1)), w)))
  else
  if kd w a0 = 9 then
  if kd w (gv w a0 3) = 8 then
  if kd w (gv w (gv w a0 3) 2) = 6 then
  if (gv w (gv w (gv w a0 3) 2) 1) < a2 then
   (some (.inr (some (iV (-1)), w)))
  else
  if a3 < 0 then
   (some (.inr (some (iV (-1)), w)))
  else
  if kd w a0 = 9 then
  if kd w (gv w a0 3) = 8 then
  if kd w (gv w (gv w a0 3) 2) = 6 then
  bI (C 60 w [rV (gv w (gv w a0 3) 2), iV a1, iV a2, iV a3]) (fun x2 w1 =>
  some (.inr (some (iV x2), w1))) else none else none else none else none else none else none := by
  rfl
set_option maxRecDepth 100000 in
theorem eX11_node_0 (C : sC) (w : sW) (a0 a1 a2 : Int) : sg C mX11_node 2000 0 [some (rV a0), some (iV a1), some (iV a2)] [] w =
  if a1 < 0 then
   (some (.inr (some (iV (-1)), w)))
  else
  if a1 < 7 then
   (if a2 < 0 then
    (some (.inr (some (iV (-1)), w)))
   else
   if kd w a0 = 9 then
   if kd w (gv w a0 3) = 8 then
   if kd w (gv w (gv w a0 3) 2) = 6 then
   bI (C 61 w [rV (gv w (gv w a0 3) 2), iV a1, iV a2]) (fun x2 w1 =>
   some (.inr (some (iV x2), w1))) else none else none else none)
  else
  some (.inr (some (iV (-1)), w)) := by
  rfl
set_option maxRecDepth 100000 in
theorem eX11_type_0 (C : sC) (w : sW) (a0 a1 a2 : Int) : sg C mX11_type 2000 0 [some (rV a0), some (iV a1), some (iV a2)] [] w =
  bI (C 134 w [iV a2]) (fun x2 w1 =>
  if x2 = 0 then
   (some (.inr (some (iV (-1)), w1)))
  else
  if kd w1 a0 = 9 then
  bI (C 124 w1 [rV a0, rV 10, iV a1, iV a2, iV 0]) (fun x4 w3 =>
  some (.inr (some (iV x4), w3))) else none) := by
  rfl
set_option maxRecDepth 100000 in
theorem eX11_erase_0 (C : sC) (w : sW) (a0 a1 a2 : Int) : sg C mX11_erase 2000 0 [some (rV a0), some (iV a1), some (iV a2)] [] w =
  if a2 < 1 then
   (some (.inr (some (iV (-1)), w)))
  else
  if 200 < a2 then
   (some (.inr (some (iV (-1)), w)))
  else
  if kd w a0 = 9 then
  bI (C 124 w [rV a0, rV 11, iV a1, iV a2, iV 0]) (fun x2 w1 =>
  some (.inr (some (iV x2), w1))) else none := by
  rfl
set_option maxRecDepth 100000 in
theorem eX11_undo_0 (C : sC) (w : sW) (a0 : Int) : sg C mX11_undo 2000 0 [some (rV a0)] [] w =
  if kd w a0 = 9 then
  if kd w a0 = 9 then
  if kd w (gv w a0 8) = 3 then
  bI (C 13 w [rV (gv w a0 8), rV (gv w a0 3)]) (fun x2 w1 =>
  if x2 = 0 then
   (some (.inr (some (iV (-1)), w1)))
  else
  if kd w1 a0 = 9 then
  if kd w1 (gv w1 a0 8) = 3 then
  some (.inr (some (iV (gv w1 (gv w1 a0 8) 2)), w1)) else none else none) else none else none else none := by
  rfl
set_option maxRecDepth 100000 in
theorem eX11_drawn_0 (C : sC) (w : sW) (a0 a1 a2 : Int) : sg C mX11_drawn 2000 0 [some (rV a0), some (iV a1), some (iV a2), none, none, none] [] w =
  if a1 < 1 then
   (some (.inr (some (iV (-1)), w)))
  else
  if 60 < a1 then
   (some (.inr (some (iV (-1)), w)))
  else
  if kd w a0 = 9 then
  if kd w a0 = 9 then
  if kd w (gv w a0 4) = 8 then
  bN (C 76 w [rV (gv w a0 4), rV (gv w a0 3)]) (fun w1 =>
  wl (al w1 2 0 1) (fun w2 =>
  if kd w2 (nx w1) = 2 then
  bN (C 5 w2 [rV (nx w1), iV a2]) (fun w3 =>
  some (.inl (39, [some (rV a0), some (iV a1), none, some (rV (nx w1)), some (iV 0), some (iV 0)], [], w3))) else none)) else none else none else none := by
  rfl
set_option maxRecDepth 100000 in
theorem eX11_drawn_39 (C : sC) (w : sW) (a0 a1 a3 a4 a5 : Int) : sg C mX11_drawn 2000 39 [some (rV a0), some (iV a1), none, some (rV a3), some (iV a4), some (iV a5)] [] w =
  if a5 < a1 then
   (if kd w a0 = 9 then
   if kd w a3 = 2 then
   bI (C 7 w [rV a3, rV (gv w a0 3)]) (fun x2 w1 =>
   if x2 = 0 then
    (some (.inl (39, [some (rV a0), some (iV a1), none, some (rV a3), some (iV (w32 (a4 + 0))), some (iV (w32 (a5 + 1)))], [], w1)))
   else
   some (.inl (39, [some (rV a0), some (iV a1), none, some (rV a3), some (iV (w32 (a4 + 1))), some (iV (w32 (a5 + 1)))], [], w1))) else none else none)
  else
  if 0 < a4 then
   (if kd w a0 = 9 then
   if kd w a0 = 9 then
   if kd w (gv w a0 8) = 3 then
   bN (C 12 w [rV (gv w a0 8), rV (gv w a0 4)]) (fun w3 =>
   some (.inr (some (iV a4), w3))) else none else none else none)
  else
  some (.inr (some (iV a4), w)) := by
  rfl
set_option maxRecDepth 100000 in
theorem eX11_book_0 (C : sC) (w : sW) (a0 a1 : Int) : sg C mX11_book 2000 0 [some (rV a0), some (iV a1), none] [] w =
  if a1 = 0 then
   (some (.inl (13, [some (rV a0), some (iV a1), none], [], w)))
  else
  if a1 = 1 then
   (some (.inl (13, [some (rV a0), some (iV a1), none], [], w)))
  else
  some (.inr (some (iV (-1000)), w)) := by
  rfl
set_option maxRecDepth 100000 in
theorem eX11_book_13 (C : sC) (w : sW) (a0 a1 : Int) : sg C mX11_book 2000 13 [some (rV a0), some (iV a1), none] [] w =
  if kd w a0 = 9 then
  if kd w a0 = 9 then
  if kd w a0 = 9 then
  if kd w (gv w a0 2) = 4 then
  bN (C 15 w [rV (gv w a0 2), rV (gv w a0 0), iV (gv w a0 1), iV 400]) (fun w1 =>
  if kd w1 a0 = 9 then
  if kd w1 a0 = 9 then
  if kd w1 a0 = 9 then
  if kd w1 (gv w1 a0 7) = 1 then
  bN (C 1 w1 [rV (gv w1 a0 7), rV (gv w1 a0 2), rV (gv w1 a0 3)]) (fun w2 =>
  if kd w2 a0 = 9 then
  bI (C 100 w2 [rV a0]) (fun x4 w3 =>
  if x4 = 0 then
   (if kd w3 a0 = 9 then
   if kd w3 a0 = 9 then
   if kd w3 (gv w3 a0 4) = 8 then
   bN (C 76 w3 [rV (gv w3 a0 4), rV (gv w3 a0 3)]) (fun w5 =>
   if kd w5 a0 = 9 then
   if kd w5 a0 = 9 then
   if kd w5 (gv w5 a0 7) = 1 then
   bI (C 4 w5 [rV (gv w5 a0 7), rV (gv w5 a0 3)]) (fun x7 w6 =>
   if kd w6 a0 = 9 then
   if kd w6 a0 = 9 then
   if kd w6 (gv w6 a0 7) = 1 then
   if (kd w6 (gv w6 a0 14) = 20 ∧ 32 ≤ (gv w6 a0 14)) ∧ 0 ≤ (0 : Int) ∧ (0 : Int) < ln w6 (gv w6 a0 14) then
   wl (sv w6 (gv w6 a0 14) 0 (gv w6 (gv w6 a0 7) 5)) (fun w8 =>
   if kd w8 a0 = 9 then
   if (kd w8 (gv w8 a0 14) = 20 ∧ 32 ≤ (gv w8 a0 14)) ∧ 0 ≤ (1 : Int) ∧ (1 : Int) < ln w8 (gv w8 a0 14) then
   wl (sv w8 (gv w8 a0 14) 1 x7) (fun w9 =>
   if kd w9 a0 = 9 then
   if kd w9 a0 = 9 then
   if kd w9 (gv w9 a0 3) = 8 then
   bI (C 79 w9 [rV (gv w9 a0 3)]) (fun x11 w10 =>
   if (kd w10 (gv w9 a0 14) = 20 ∧ 32 ≤ (gv w9 a0 14)) ∧ 0 ≤ (2 : Int) ∧ (2 : Int) < ln w10 (gv w9 a0 14) then
   wl (sv w10 (gv w9 a0 14) 2 x11) (fun w12 =>
   if kd w12 a0 = 9 then
   if kd w12 a0 = 9 then
   if kd w12 (gv w12 a0 3) = 8 then
   if kd w12 (gv w12 (gv w12 a0 3) 2) = 6 then
   if (kd w12 (gv w12 a0 14) = 20 ∧ 32 ≤ (gv w12 a0 14)) ∧ 0 ≤ (3 : Int) ∧ (3 : Int) < ln w12 (gv w12 a0 14) then
   wl (sv w12 (gv w12 a0 14) 3 (gv w12 (gv w12 (gv w12 a0 3) 2) 1)) (fun w13 =>
   if a1 = 0 then
    (if kd w13 a0 = 9 then
    bN (C 101 w13 [rV a0]) (fun w14 =>
    if kd w14 a0 = 9 then
    if kd w14 (gv w14 a0 7) = 1 then
    if (gv w14 (gv w14 a0 7) 5) = 0 then
     (some (.inr (some (iV (-1)), w14)))
    else
    some (.inr (some (iV x7), w14)) else none else none) else none)
   else
   if 0 < x7 then
    (if kd w13 a0 = 9 then
    if kd w13 a0 = 9 then
    if kd w13 (gv w13 a0 8) = 3 then
    bN (C 12 w13 [rV (gv w13 a0 8), rV (gv w13 a0 4)]) (fun w15 =>
    if kd w15 a0 = 9 then
    if kd w15 (gv w15 a0 7) = 1 then
    if (gv w15 (gv w15 a0 7) 5) = 0 then
     (some (.inr (some (iV (-1)), w15)))
    else
    some (.inr (some (iV x7), w15)) else none else none) else none else none else none)
   else
   if kd w13 a0 = 9 then
   if kd w13 (gv w13 a0 7) = 1 then
   if (gv w13 (gv w13 a0 7) 5) = 0 then
    (some (.inr (some (iV (-1)), w13)))
   else
   some (.inr (some (iV x7), w13)) else none else none) else none else none else none else none else none) else none) else none else none else none) else none else none) else none else none else none else none) else none else none else none) else none else none else none)
  else
  if kd w3 a0 = 9 then
  if kd w3 (gv w3 a0 2) = 4 then
  some (.inr (some (iV (w32 ((-2) - (gv w3 (gv w3 a0 2) 11)))), w3)) else none else none) else none) else none else none else none else none) else none else none else none else none := by
  rfl
set_option maxRecDepth 100000 in
theorem eX11_told_0 (C : sC) (w : sW) (a0 a1 : Int) : sg C mX11_told 2000 0 [some (rV a0), some (iV a1)] [] w =
  if a1 < 0 then
   (some (.inr (some (iV (-1)), w)))
  else
  if kd w a0 = 9 then
  if 20 ≤ kd w (gv w a0 14) ∧ kd w (gv w a0 14) ≤ 27 then
  if a1 < (ln w (gv w a0 14)) then
   (if kd w a0 = 9 then
   if kd w (gv w a0 14) = 20 ∧ 0 ≤ a1 ∧ a1 < ln w (gv w a0 14) then
   some (.inr (some (iV (gv w (gv w a0 14) a1)), w)) else none else none)
  else
  some (.inr (some (iV (-1)), w)) else none else none := by
  rfl
set_option maxRecDepth 100000 in
theorem eX11_sentence_0 (C : sC) (w : sW) (a0 : Int) : sg C mX11_sentence 2000 0 [some (rV a0), none] [] w =
  if kd w a0 = 9 then
  if kd w a0 = 9 then
  if kd w a0 = 9 then
  if kd w (gv w a0 2) = 4 then
  bN (C 15 w [rV (gv w a0 2), rV (gv w a0 0), iV (gv w a0 1), iV 200]) (fun w1 =>
  if kd w1 a0 = 9 then
  if kd w1 a0 = 9 then
  if kd w1 a0 = 9 then
  if kd w1 (gv w1 a0 6) = 7 then
  bN (C 67 w1 [rV (gv w1 a0 6), rV (gv w1 a0 2), rV (gv w1 a0 3)]) (fun w2 =>
  if kd w2 a0 = 9 then
  bI (C 100 w2 [rV a0]) (fun x4 w3 =>
  if x4 = 0 then
   (if kd w3 a0 = 9 then
   if kd w3 a0 = 9 then
   if kd w3 a0 = 9 then
   wl (sv w3 a0 5 (gv w3 a0 6)) (fun w5 =>
   if kd w5 a0 = 9 then
   wl (sv w5 a0 6 (gv w3 a0 5)) (fun w6 =>
   if kd w6 a0 = 9 then
   if kd w6 (gv w6 a0 5) = 7 then
   some (.inr (some (iV (gv w6 (gv w6 a0 5) 5)), w6)) else none else none) else none) else none else none else none)
  else
  if kd w3 a0 = 9 then
  if kd w3 (gv w3 a0 2) = 4 then
  some (.inr (some (iV (w32 ((-1) - (gv w3 (gv w3 a0 2) 11)))), w3)) else none else none) else none) else none else none else none else none) else none else none else none else none := by
  rfl
set_option maxRecDepth 100000 in
theorem eX11_said_0 (C : sC) (w : sW) (a0 a1 : Int) : sg C mX11_said 2000 0 [some (rV a0), some (iV a1), none, none] [] w =
  if kd w a0 = 9 then
  if kd w (gv w a0 5) = 7 then
  if (gv w (gv w a0 5) 5) = 0 then
   (some (.inr (some (iV (-1)), w)))
  else
  if a1 < (-1) then
   (some (.inr (some (iV (-1)), w)))
  else
  some (.inl (21, [some (rV a0), some (iV a1), some (iV 0), some (iV 0)], [], w)) else none else none := by
  rfl
set_option maxRecDepth 100000 in
theorem eX11_said_21 (C : sC) (w : sW) (a0 a1 a2 a3 : Int) : sg C mX11_said 2000 21 [some (rV a0), some (iV a1), some (iV a2), some (iV a3)] [] w =
  if kd w a0 = 9 then
  if kd w (gv w a0 3) = 8 then
  if a3 < (gv w (gv w a0 3) 3) then
   (if kd w a0 = 9 then
   if kd w a0 = 9 then
   if kd w (gv w a0 5) = 7 then
   bI (C 72 w [rV (gv w a0 5), rV (gv w a0 3), iV a3]) (fun x2 w1 =>
   if x2 = 0 then
    (some (.inl (21, [some (rV a0), some (iV a1), some (iV a2), some (iV (w32 (a3 + 1)))], [], w1)))
   else
   if a2 = a1 then
    (some (.inr (some (iV a3), w1)))
   else
   some (.inl (21, [some (rV a0), some (iV a1), some (iV (w32 (a2 + 1))), some (iV (w32 (a3 + 1)))], [], w1))) else none else none else none)
  else
  if a1 = (-1) then
   (some (.inr (some (iV a2), w)))
  else
  some (.inr (some (iV (-1)), w)) else none else none := by
  rfl
set_option maxRecDepth 100000 in
theorem eX11_image_0 (C : sC) (w : sW) (a0 a1 : Int) : sg C mX11_image 2000 0 [some (rV a0), some (iV a1)] [] w =
  if a1 < 0 then
   (some (.inr (some (iV 0), w)))
  else
  if a1 < 2 then
   (if kd w a0 = 9 then
   if (24 ≤ kd w (gv w a0 9) ∧ kd w (gv w a0 9) ≤ 27) ∧ 0 ≤ a1 ∧ a1 < ln w (gv w a0 9) then
   if (gv w (gv w a0 9) a1) = 0 then
    (if kd w a0 = 9 then
    wl (al w 8 0 6) (fun w1 =>
    if kd w1 (nx w) = 8 then
    bN (C 75 w1 [rV (nx w)]) (fun w2 =>
    if ((kd w2 (gv w a0 9) = 24 ∧ kd w2 (nx w) = 5) ∨ (kd w2 (gv w a0 9) = 25 ∧ kd w2 (nx w) = 8) ∨ (kd w2 (gv w a0 9) = 26 ∧ kd w2 (nx w) = 7) ∨ (kd w2 (gv w a0 9) = 27 ∧ kd w2 (nx w) = 30 ∧ 32 ≤ (gv w a0 9))) ∧ 0 ≤ a1 ∧ a1 < ln w2 (gv w a0 9) then
    wl (sv w2 (gv w a0 9) a1 (nx w)) (fun w3 =>
    if kd w3 a0 = 9 then
    if (24 ≤ kd w3 (gv w3 a0 10) ∧ kd w3 (gv w3 a0 10) ≤ 27) ∧ 0 ≤ a1 ∧ a1 < ln w3 (gv w3 a0 10) then
    if (gv w3 (gv w3 a0 10) a1) = 0 then
     (if kd w3 a0 = 9 then
     wl (al w3 7 0 6) (fun w4 =>
     if kd w4 (nx w3) = 7 then
     bN (C 64 w4 [rV (nx w3)]) (fun w5 =>
     if ((kd w5 (gv w3 a0 10) = 24 ∧ kd w5 (nx w3) = 5) ∨ (kd w5 (gv w3 a0 10) = 25 ∧ kd w5 (nx w3) = 8) ∨ (kd w5 (gv w3 a0 10) = 26 ∧ kd w5 (nx w3) = 7) ∨ (kd w5 (gv w3 a0 10) = 27 ∧ kd w5 (nx w3) = 30 ∧ 32 ≤ (gv w3 a0 10))) ∧ 0 ≤ a1 ∧ a1 < ln w5 (gv w3 a0 10) then
     wl (sv w5 (gv w3 a0 10) a1 (nx w3)) (fun w6 =>
     some (.inl (55, [some (rV a0), some (iV a1)], [], w6))) else none) else none) else none)
    else
    some (.inl (55, [some (rV a0), some (iV a1)], [], w3)) else none else none) else none) else none) else none)
   else
   if kd w a0 = 9 then
   if (24 ≤ kd w (gv w a0 10) ∧ kd w (gv w a0 10) ≤ 27) ∧ 0 ≤ a1 ∧ a1 < ln w (gv w a0 10) then
   if (gv w (gv w a0 10) a1) = 0 then
    (if kd w a0 = 9 then
    wl (al w 7 0 6) (fun w7 =>
    if kd w7 (nx w) = 7 then
    bN (C 64 w7 [rV (nx w)]) (fun w8 =>
    if ((kd w8 (gv w a0 10) = 24 ∧ kd w8 (nx w) = 5) ∨ (kd w8 (gv w a0 10) = 25 ∧ kd w8 (nx w) = 8) ∨ (kd w8 (gv w a0 10) = 26 ∧ kd w8 (nx w) = 7) ∨ (kd w8 (gv w a0 10) = 27 ∧ kd w8 (nx w) = 30 ∧ 32 ≤ (gv w a0 10))) ∧ 0 ≤ a1 ∧ a1 < ln w8 (gv w a0 10) then
    wl (sv w8 (gv w a0 10) a1 (nx w)) (fun w9 =>
    some (.inl (55, [some (rV a0), some (iV a1)], [], w9))) else none) else none) else none)
   else
   some (.inl (55, [some (rV a0), some (iV a1)], [], w)) else none else none else none else none)
  else
  some (.inr (some (iV 0), w)) := by
  rfl
set_option maxRecDepth 100000 in
theorem eX11_image_55 (C : sC) (w : sW) (a0 a1 : Int) : sg C mX11_image 2000 55 [some (rV a0), some (iV a1)] [] w =
  if kd w a0 = 9 then
  if (24 ≤ kd w (gv w a0 9) ∧ kd w (gv w a0 9) ≤ 27) ∧ 0 ≤ a1 ∧ a1 < ln w (gv w a0 9) then
  if kd w a0 = 9 then
  if kd w (gv w (gv w a0 9) a1) = 8 then
  bN (C 76 w [rV (gv w (gv w a0 9) a1), rV (gv w a0 3)]) (fun w1 =>
  if kd w1 a0 = 9 then
  if (24 ≤ kd w1 (gv w1 a0 10) ∧ kd w1 (gv w1 a0 10) ≤ 27) ∧ 0 ≤ a1 ∧ a1 < ln w1 (gv w1 a0 10) then
  if kd w1 a0 = 9 then
  if kd w1 (gv w1 (gv w1 a0 10) a1) = 7 then
  bN (C 66 w1 [rV (gv w1 (gv w1 a0 10) a1), rV (gv w1 a0 5)]) (fun w2 =>
  some (.inr (some (iV 1), w2))) else none else none else none else none) else none else none else none else none := by
  rfl
set_option maxRecDepth 100000 in
theorem eX11_restore_0 (C : sC) (w : sW) (a0 a1 : Int) : sg C mX11_restore 2000 0 [some (rV a0), some (iV a1)] [] w =
  if a1 < 0 then
   (some (.inr (some (iV 0), w)))
  else
  if a1 < 2 then
   (if kd w a0 = 9 then
   if (24 ≤ kd w (gv w a0 9) ∧ kd w (gv w a0 9) ≤ 27) ∧ 0 ≤ a1 ∧ a1 < ln w (gv w a0 9) then
   if (gv w (gv w a0 9) a1) = 0 then
    (some (.inr (some (iV 0), w)))
   else
   if kd w a0 = 9 then
   if (24 ≤ kd w (gv w a0 10) ∧ kd w (gv w a0 10) ≤ 27) ∧ 0 ≤ a1 ∧ a1 < ln w (gv w a0 10) then
   if (gv w (gv w a0 10) a1) = 0 then
    (some (.inr (some (iV 0), w)))
   else
   if kd w a0 = 9 then
   if kd w a0 = 9 then
   if (24 ≤ kd w (gv w a0 9) ∧ kd w (gv w a0 9) ≤ 27) ∧ 0 ≤ a1 ∧ a1 < ln w (gv w a0 9) then
   if kd w (gv w a0 3) = 8 then
   bN (C 76 w [rV (gv w a0 3), rV (gv w (gv w a0 9) a1)]) (fun w1 =>
   if kd w1 a0 = 9 then
   if kd w1 a0 = 9 then
   if (24 ≤ kd w1 (gv w1 a0 10) ∧ kd w1 (gv w1 a0 10) ≤ 27) ∧ 0 ≤ a1 ∧ a1 < ln w1 (gv w1 a0 10) then
   if kd w1 (gv w1 a0 5) = 7 then
   bN (C 66 w1 [rV (gv w1 a0 5), rV (gv w1 (gv w1 a0 10) a1)]) (fun w2 =>
   if kd w2 a0 = 9 then
   if kd w2 (gv w2 a0 8) = 3 then
   bN (C 11 w2 [rV (gv w2 a0 8)]) (fun w3 =>
   some (.inr (some (iV 1), w3))) else none else none) else none else none else none else none) else none else none else none else none else none else none else none else none)
  else
  some (.inr (some (iV 0), w)) := by
  rfl
set_option maxRecDepth 100000 in
theorem eX11_total_0 (C : sC) (w : sW) (a0 a1 : Int) : sg C mX11_total 2000 0 [some (rV a0), some (iV a1)] [] w =
  if a1 = 0 then
   (if kd w a0 = 9 then
   if kd w (gv w a0 3) = 8 then
   some (.inr (some (iV (gv w (gv w a0 3) 3)), w)) else none else none)
  else if a1 = 1 then
   (if kd w a0 = 9 then
   if kd w (gv w a0 3) = 8 then
   some (.inr (some (iV (gv w (gv w a0 3) 4)), w)) else none else none)
  else if a1 = 2 then
   (if kd w a0 = 9 then
   if kd w (gv w a0 3) = 8 then
   bI (C 79 w [rV (gv w a0 3)]) (fun x2 w1 =>
   some (.inr (some (iV x2), w1))) else none else none)
  else if a1 = 3 then
   (if kd w a0 = 9 then
   some (.inr (some (iV (gv w a0 1)), w)) else none)
  else some (.inr (some (iV (-1)), w)) := by
  rfl
end
section
set_option maxRecDepth 100000 in
theorem eX12_thrown_0 (C : sC) (w : sW) (a0 : Int) : sg C mX12_thrown 2000 0 [some (rV a0)] [] w =
  if kd w a0 = 10 then
  some (.inr (some (iV (gv w a0 0)), w)) else none := by
  rfl
set_option maxRecDepth 100000 in
theorem eX12_refuse_0 (C : sC) (w : sW) (a0 : Int) : sg C mX12_refuse 2000 0 [some (rV a0)] [] w =
  if kd w a0 = 10 then
  wl (sv w a0 0 1) (fun w1 =>
  some (.inr (some (iV 0), w1))) else none := by
  rfl
set_option maxRecDepth 100000 in
theorem eX12_come_0 (C : sC) (w : sW) (a0 a1 : Int) : sg C mX12_come 2000 0 [some (rV a0), some (iV a1), none] [] w =
  some (.inl (3, [some (rV a0), some (iV a1), some (iV 24)], [], w)) := by
  rfl
set_option maxRecDepth 100000 in
theorem eX12_come_3 (C : sC) (w : sW) (a0 a1 a2 : Int) : sg C mX12_come 2000 3 [some (rV a0), some (iV a1), some (iV a2)] [] w =
  if a2 < 0 then
   (some (.inr (none, w)))
  else
  if kd w a0 = 10 then
  if kd w a0 = 10 then
  if (kd w (gv w a0 1) = 20 ∧ 32 ≤ (gv w a0 1)) ∧ 0 ≤ (gv w a0 2) ∧ (gv w a0 2) < ln w (gv w a0 1) then
  wl (sv w (gv w a0 1) (gv w a0 2) (f_iand (f_iushr a1 a2) 255)) (fun w1 =>
  if kd w1 a0 = 10 then
  if kd w1 a0 = 10 then
  wl (sv w1 a0 2 (w32 ((gv w1 a0 2) + 1))) (fun w2 =>
  some (.inl (3, [some (rV a0), some (iV a1), some (iV (w32 (a2 + (-8))))], [], w2))) else none else none) else none else none else none := by
  rfl
set_option maxRecDepth 100000 in
theorem eX12_feed_0 (C : sC) (w : sW) (a0 a1 a2 a3 a4 a5 : Int) : sg C mX12_feed 2000 0 [some (rV a0), some (iV a1), some (iV a2), some (iV a3), some (iV a4), some (iV a5)] [] w =
  if kd w a0 = 10 then
  wl (sv w a0 0 0) (fun w1 =>
  if kd w1 a0 = 10 then
  if 940 < (w32 ((gv w1 a0 2) + 20)) then
   (some (.inr (some (iV (-1)), w1)))
  else
  if kd w1 a0 = 10 then
  bN (C 151 w1 [rV a0, iV a1]) (fun w2 =>
  if kd w2 a0 = 10 then
  bN (C 151 w2 [rV a0, iV a2]) (fun w3 =>
  if kd w3 a0 = 10 then
  bN (C 151 w3 [rV a0, iV a3]) (fun w4 =>
  if kd w4 a0 = 10 then
  bN (C 151 w4 [rV a0, iV a4]) (fun w5 =>
  if kd w5 a0 = 10 then
  bN (C 151 w5 [rV a0, iV a5]) (fun w6 =>
  if kd w6 a0 = 10 then
  some (.inr (some (iV (gv w6 a0 2)), w6)) else none) else none) else none) else none) else none) else none else none) else none := by
  rfl
set_option maxRecDepth 100000 in
theorem eX12_end_0 (C : sC) (w : sW) (a0 a1 : Int) : sg C mX12_end 2000 0 [some (rV a0), some (iV a1)] [] w =
  if kd w a0 = 10 then
  wl (sv w a0 0 0) (fun w1 =>
  if a1 < 0 then
   (some (.inr (some (iV 0), w1)))
  else
  if kd w1 a0 = 10 then
  if (gv w1 a0 2) < a1 then
   (some (.inr (some (iV 0), w1)))
  else
  if kd w1 a0 = 10 then
  wl (sv w1 a0 2 a1) (fun w2 =>
  some (.inr (some (iV 1), w2))) else none else none) else none := by
  rfl
set_option maxRecDepth 100000 in
theorem eX12_take_0 (C : sC) (w : sW) (a0 : Int) : sg C mX12_take 2000 0 [some (rV a0), none] [] w =
  if kd w a0 = 10 then
  if kd w a0 = 10 then
  wl (sv w a0 2 0) (fun w1 =>
  some (.inr (some (iV (gv w a0 2)), w1))) else none else none := by
  rfl
set_option maxRecDepth 100000 in
theorem eX12_isIn_0 (C : sC) (w : sW) (a0 a1 a2 : Int) : sg C mX12_isIn 2000 0 [some (iV a0), some (iV a1), some (iV a2)] [] w =
  if a0 < a1 then
   (some (.inr (some (iV 0), w)))
  else
  if a2 < a0 then
   (some (.inr (some (iV 0), w)))
  else
  some (.inr (some (iV 1), w)) := by
  rfl
set_option maxRecDepth 100000 in
theorem eX12_tapeAt_0 (C : sC) (w : sW) (a0 a1 : Int) : sg C mX12_tapeAt 2000 0 [some (rV a0), some (iV a1)] [] w =
  if kd w a0 = 10 then
  if a1 < (gv w a0 3) then
   (if kd w a0 = 10 then
   if kd w (gv w a0 1) = 20 ∧ 0 ≤ a1 ∧ a1 < ln w (gv w a0 1) then
   some (.inr (some (iV (gv w (gv w a0 1) a1)), w)) else none else none)
  else
  some (.inr (some (iV 0), w)) else none := by
  rfl
set_option maxRecDepth 100000 in
theorem eX12_isDigit_0 (C : sC) (w : sW) (a0 : Int) : sg C mX12_isDigit 2000 0 [some (iV a0)] [] w =
  if a0 < 48 then
   (some (.inr (some (iV 0), w)))
  else
  if 57 < a0 then
   (some (.inr (some (iV 0), w)))
  else
  some (.inr (some (iV 1), w)) := by
  rfl
set_option maxRecDepth 100000 in
theorem eX12_isLetter_0 (C : sC) (w : sW) (a0 : Int) : sg C mX12_isLetter 2000 0 [some (iV a0)] [] w =
  if a0 < 97 then
   (some (.inr (some (iV 0), w)))
  else
  if 122 < a0 then
   (some (.inr (some (iV 0), w)))
  else
  some (.inr (some (iV 1), w)) := by
  rfl
set_option maxRecDepth 100000 in
theorem eX12_go_0 (C : sC) (w : sW) (a0 : Int) : sg C mX12_go 2000 0 [some (rV a0), none, none, none, none] [] w =
  if kd w a0 = 10 then
  if kd w a0 = 10 then
  if (gv w a0 5) < (gv w a0 3) then
   (if kd w a0 = 10 then
   if kd w a0 = 10 then
   if kd w (gv w a0 1) = 20 ∧ 0 ≤ (gv w a0 5) ∧ (gv w a0 5) < ln w (gv w a0 1) then
   if (gv w (gv w a0 1) (gv w a0 5)) = 32 then
    (if kd w a0 = 10 then
    if kd w a0 = 10 then
    wl (sv w a0 5 (w32 ((gv w a0 5) + 1))) (fun w1 =>
    some (.inl (0, [some (rV a0), none, none, none, none], [], w1))) else none else none)
   else
   if kd w a0 = 10 then
   if kd w a0 = 10 then
   if kd w (gv w a0 1) = 20 ∧ 0 ≤ (gv w a0 5) ∧ (gv w a0 5) < ln w (gv w a0 1) then
   if (gv w (gv w a0 1) (gv w a0 5)) = 10 then
    (if kd w a0 = 10 then
    if kd w a0 = 10 then
    wl (sv w a0 5 (w32 ((gv w a0 5) + 1))) (fun w2 =>
    some (.inl (0, [some (rV a0), none, none, none, none], [], w2))) else none else none)
   else
   if kd w a0 = 10 then
   if kd w a0 = 10 then
   wl (sv w a0 6 (gv w a0 5)) (fun w3 =>
   if kd w3 a0 = 10 then
   if kd w3 a0 = 10 then
   if (gv w3 a0 4) < (gv w3 a0 3) then
    (if kd w3 a0 = 10 then
    if kd w3 a0 = 10 then
    if (gv w3 a0 6) < (gv w3 a0 4) then
     (some (.inl (96, [some (rV a0), none, none, none, none], [], w3)))
    else
    if kd w3 a0 = 10 then
    if kd w3 a0 = 10 then
    wl (sv w3 a0 6 (gv w3 a0 4)) (fun w4 =>
    if kd w4 a0 = 10 then
    wl (sv w4 a0 7 1) (fun w5 =>
    some (.inr (none, w5))) else none) else none else none else none else none)
   else
   some (.inl (96, [some (rV a0), none, none, none, none], [], w3)) else none else none) else none else none else none else none else none else none else none else none)
  else
  if kd w a0 = 10 then
  if kd w a0 = 10 then
  wl (sv w a0 6 (gv w a0 5)) (fun w6 =>
  if kd w6 a0 = 10 then
  if kd w6 a0 = 10 then
  if (gv w6 a0 4) < (gv w6 a0 3) then
   (if kd w6 a0 = 10 then
   if kd w6 a0 = 10 then
   if (gv w6 a0 6) < (gv w6 a0 4) then
    (some (.inl (96, [some (rV a0), none, none, none, none], [], w6)))
   else
   if kd w6 a0 = 10 then
   if kd w6 a0 = 10 then
   wl (sv w6 a0 6 (gv w6 a0 4)) (fun w7 =>
   if kd w7 a0 = 10 then
   wl (sv w7 a0 7 1) (fun w8 =>
   some (.inr (none, w8))) else none) else none else none else none else none)
  else
  some (.inl (96, [some (rV a0), none, none, none, none], [], w6)) else none else none) else none else none else none else none := by
  rfl
set_option maxRecDepth 100000 in
theorem eX12_go_96 (C : sC) (w : sW) (a0 : Int) : sg C mX12_go 2000 96 [some (rV a0), none, none, none, none] [] w =
  if kd w a0 = 10 then
  if kd w a0 = 10 then
  if (gv w a0 5) < (gv w a0 3) then
   (if kd w a0 = 10 then
   if kd w a0 = 10 then
   if kd w (gv w a0 1) = 20 ∧ 0 ≤ (gv w a0 5) ∧ (gv w a0 5) < ln w (gv w a0 1) then
   bI (C 158 w [iV (gv w (gv w a0 1) (gv w a0 5))]) (fun x2 w1 =>
   if x2 = 0 then
    (bI (C 157 w1 [iV (gv w (gv w a0 1) (gv w a0 5))]) (fun x4 w3 =>
    if x4 = 0 then
     (if (gv w (gv w a0 1) (gv w a0 5)) = 59 then
      (if kd w3 a0 = 10 then
      wl (sv w3 a0 7 4) (fun w5 =>
      if kd w5 a0 = 10 then
      wl (sv w5 a0 9 (gv w (gv w a0 1) (gv w a0 5))) (fun w6 =>
      if kd w6 a0 = 10 then
      if kd w6 a0 = 10 then
      wl (sv w6 a0 5 (w32 ((gv w6 a0 5) + 1))) (fun w7 =>
      some (.inr (none, w7))) else none else none) else none) else none)
     else
     if (gv w (gv w a0 1) (gv w a0 5)) = 60 then
      (if kd w3 a0 = 10 then
      wl (sv w3 a0 7 4) (fun w8 =>
      if kd w8 a0 = 10 then
      wl (sv w8 a0 9 (gv w (gv w a0 1) (gv w a0 5))) (fun w9 =>
      if kd w9 a0 = 10 then
      if kd w9 a0 = 10 then
      wl (sv w9 a0 5 (w32 ((gv w9 a0 5) + 1))) (fun w10 =>
      some (.inr (none, w10))) else none else none) else none) else none)
     else
     if (gv w (gv w a0 1) (gv w a0 5)) = 61 then
      (if kd w3 a0 = 10 then
      wl (sv w3 a0 7 4) (fun w11 =>
      if kd w11 a0 = 10 then
      wl (sv w11 a0 9 (gv w (gv w a0 1) (gv w a0 5))) (fun w12 =>
      if kd w12 a0 = 10 then
      if kd w12 a0 = 10 then
      wl (sv w12 a0 5 (w32 ((gv w12 a0 5) + 1))) (fun w13 =>
      some (.inr (none, w13))) else none else none) else none) else none)
     else
     if (gv w (gv w a0 1) (gv w a0 5)) = 62 then
      (if kd w3 a0 = 10 then
      wl (sv w3 a0 7 4) (fun w14 =>
      if kd w14 a0 = 10 then
      wl (sv w14 a0 9 (gv w (gv w a0 1) (gv w a0 5))) (fun w15 =>
      if kd w15 a0 = 10 then
      if kd w15 a0 = 10 then
      wl (sv w15 a0 5 (w32 ((gv w15 a0 5) + 1))) (fun w16 =>
      some (.inr (none, w16))) else none else none) else none) else none)
     else
     if (gv w (gv w a0 1) (gv w a0 5)) = 40 then
      (if kd w3 a0 = 10 then
      wl (sv w3 a0 7 4) (fun w17 =>
      if kd w17 a0 = 10 then
      wl (sv w17 a0 9 (gv w (gv w a0 1) (gv w a0 5))) (fun w18 =>
      if kd w18 a0 = 10 then
      if kd w18 a0 = 10 then
      wl (sv w18 a0 5 (w32 ((gv w18 a0 5) + 1))) (fun w19 =>
      some (.inr (none, w19))) else none else none) else none) else none)
     else
     if (gv w (gv w a0 1) (gv w a0 5)) = 41 then
      (if kd w3 a0 = 10 then
      wl (sv w3 a0 7 4) (fun w20 =>
      if kd w20 a0 = 10 then
      wl (sv w20 a0 9 (gv w (gv w a0 1) (gv w a0 5))) (fun w21 =>
      if kd w21 a0 = 10 then
      if kd w21 a0 = 10 then
      wl (sv w21 a0 5 (w32 ((gv w21 a0 5) + 1))) (fun w22 =>
      some (.inr (none, w22))) else none else none) else none) else none)
     else
     if kd w3 a0 = 10 then
     wl (sv w3 a0 7 1) (fun w23 =>
     if kd w23 a0 = 10 then
     wl (sv w23 a0 9 (gv w (gv w a0 1) (gv w a0 5))) (fun w24 =>
     if kd w24 a0 = 10 then
     if kd w24 a0 = 10 then
     wl (sv w24 a0 5 (w32 ((gv w24 a0 5) + 1))) (fun w25 =>
     some (.inr (none, w25))) else none else none) else none) else none)
    else
    bI (C 158 w3 [iV (gv w (gv w a0 1) (gv w a0 5))]) (fun x27 w26 =>
    if kd w26 a0 = 10 then
    wl (sv w26 a0 12 0) (fun w28 =>
    if kd w28 a0 = 10 then
    wl (sv w28 a0 8 0) (fun w29 =>
    some (.inl (215, [some (rV a0), none, some (iV x27), some (iV 1), none], [], w29))) else none) else none)))
   else
   bI (C 158 w1 [iV (gv w (gv w a0 1) (gv w a0 5))]) (fun x31 w30 =>
   if kd w30 a0 = 10 then
   wl (sv w30 a0 12 0) (fun w32 =>
   if kd w32 a0 = 10 then
   wl (sv w32 a0 8 0) (fun w33 =>
   some (.inl (215, [some (rV a0), none, some (iV x31), some (iV 1), none], [], w33))) else none) else none)) else none else none else none)
  else
  if kd w a0 = 10 then
  wl (sv w a0 7 0) (fun w34 =>
  some (.inr (none, w34))) else none else none else none := by
  rfl
set_option maxRecDepth 100000 in
theorem eX12_go_215 (C : sC) (w : sW) (a0 a2 a3 : Int) : sg C mX12_go 2000 215 [some (rV a0), none, some (iV a2), some (iV a3), none] [] w =
  if kd w a0 = 10 then
  if kd w a0 = 10 then
  bI (C 156 w [rV a0, iV (gv w a0 5)]) (fun x2 w1 =>
  bI (C 158 w1 [iV x2]) (fun x4 w3 =>
  if x4 = 0 then
   (if kd w3 a0 = 10 then
   if kd w3 a0 = 10 then
   bI (C 156 w3 [rV a0, iV (gv w3 a0 5)]) (fun x6 w5 =>
   bI (C 157 w5 [iV x6]) (fun x8 w7 =>
   if x8 = 0 then
    (if a3 = 0 then
     (if kd w7 a0 = 10 then
     wl (sv w7 a0 7 1) (fun w9 =>
     some (.inr (none, w9))) else none)
    else
    if kd w7 a0 = 10 then
    if kd w7 a0 = 10 then
    if a2 = 0 then
     (if 3 < (w32 ((gv w7 a0 5) - (gv w7 a0 6))) then
      (if kd w7 a0 = 10 then
      wl (sv w7 a0 7 1) (fun w10 =>
      some (.inr (none, w10))) else none)
     else
     if a2 = 0 then
      (if kd w7 a0 = 10 then
      wl (sv w7 a0 7 3) (fun w11 =>
      some (.inr (none, w11))) else none)
     else
     if kd w7 a0 = 10 then
     wl (sv w7 a0 7 2) (fun w12 =>
     some (.inr (none, w12))) else none)
    else
    if 7 < (w32 ((gv w7 a0 5) - (gv w7 a0 6))) then
     (if kd w7 a0 = 10 then
     wl (sv w7 a0 7 1) (fun w13 =>
     some (.inr (none, w13))) else none)
    else
    if a2 = 0 then
     (if kd w7 a0 = 10 then
     wl (sv w7 a0 7 3) (fun w14 =>
     some (.inr (none, w14))) else none)
    else
    if kd w7 a0 = 10 then
    wl (sv w7 a0 7 2) (fun w15 =>
    some (.inr (none, w15))) else none else none else none)
   else
   if kd w7 a0 = 10 then
   if kd w7 a0 = 10 then
   if kd w7 (gv w7 a0 1) = 20 ∧ 0 ≤ (gv w7 a0 5) ∧ (gv w7 a0 5) < ln w7 (gv w7 a0 1) then
   if a3 = 0 then
    (some (.inl (272, [some (rV a0), none, some (iV a2), none, some (iV (gv w7 (gv w7 a0 1) (gv w7 a0 5)))], [iV 0], w7)))
   else
   bI (C 158 w7 [iV (gv w7 (gv w7 a0 1) (gv w7 a0 5))]) (fun x17 w16 =>
   if x17 = a2 then
    (some (.inl (272, [some (rV a0), none, some (iV a2), none, some (iV (gv w7 (gv w7 a0 1) (gv w7 a0 5)))], [iV 1], w16)))
   else
   some (.inl (272, [some (rV a0), none, some (iV a2), none, some (iV (gv w7 (gv w7 a0 1) (gv w7 a0 5)))], [iV 0], w16))) else none else none else none)) else none else none)
  else
  if kd w3 a0 = 10 then
  if kd w3 a0 = 10 then
  if kd w3 (gv w3 a0 1) = 20 ∧ 0 ≤ (gv w3 a0 5) ∧ (gv w3 a0 5) < ln w3 (gv w3 a0 1) then
  if a3 = 0 then
   (some (.inl (272, [some (rV a0), none, some (iV a2), none, some (iV (gv w3 (gv w3 a0 1) (gv w3 a0 5)))], [iV 0], w3)))
  else
  bI (C 158 w3 [iV (gv w3 (gv w3 a0 1) (gv w3 a0 5))]) (fun x19 w18 =>
  if x19 = a2 then
   (some (.inl (272, [some (rV a0), none, some (iV a2), none, some (iV (gv w3 (gv w3 a0 1) (gv w3 a0 5)))], [iV 1], w18)))
  else
  some (.inl (272, [some (rV a0), none, some (iV a2), none, some (iV (gv w3 (gv w3 a0 1) (gv w3 a0 5)))], [iV 0], w18))) else none else none else none)) else none else none := by
  rfl
set_option maxRecDepth 100000 in
theorem eX12_go_272 (C : sC) (w : sW) (a0 a2 a4 b0 : Int) : sg C mX12_go 2000 272 [some (rV a0), none, some (iV a2), none, some (iV a4)] [iV b0] w =
  if kd w a0 = 10 then
  if kd w a0 = 10 then
  if (w32 ((gv w a0 5) - (gv w a0 6))) < 7 then
   (if kd w a0 = 10 then
   if kd w a0 = 10 then
   wl (sv w a0 12 (w64 ((w64 ((w64 (27 * (gv w a0 12))) + a4)) - 96))) (fun w1 =>
   if kd w1 a0 = 10 then
   if kd w1 a0 = 10 then
   if (w32 ((gv w1 a0 5) - (gv w1 a0 6))) < 3 then
    (if kd w1 a0 = 10 then
    if kd w1 a0 = 10 then
    wl (sv w1 a0 8 (w32 ((w32 ((w32 (10 * (gv w1 a0 8))) + a4)) - 48))) (fun w2 =>
    if kd w2 a0 = 10 then
    if kd w2 a0 = 10 then
    wl (sv w2 a0 5 (w32 ((gv w2 a0 5) + 1))) (fun w3 =>
    some (.inl (215, [some (rV a0), none, some (iV a2), some (iV b0), none], [], w3))) else none else none) else none else none)
   else
   if kd w1 a0 = 10 then
   if kd w1 a0 = 10 then
   wl (sv w1 a0 5 (w32 ((gv w1 a0 5) + 1))) (fun w4 =>
   some (.inl (215, [some (rV a0), none, some (iV a2), some (iV b0), none], [], w4))) else none else none else none else none) else none else none)
  else
  if kd w a0 = 10 then
  if kd w a0 = 10 then
  if (w32 ((gv w a0 5) - (gv w a0 6))) < 3 then
   (if kd w a0 = 10 then
   if kd w a0 = 10 then
   wl (sv w a0 8 (w32 ((w32 ((w32 (10 * (gv w a0 8))) + a4)) - 48))) (fun w5 =>
   if kd w5 a0 = 10 then
   if kd w5 a0 = 10 then
   wl (sv w5 a0 5 (w32 ((gv w5 a0 5) + 1))) (fun w6 =>
   some (.inl (215, [some (rV a0), none, some (iV a2), some (iV b0), none], [], w6))) else none else none) else none else none)
  else
  if kd w a0 = 10 then
  if kd w a0 = 10 then
  wl (sv w a0 5 (w32 ((gv w a0 5) + 1))) (fun w7 =>
  some (.inl (215, [some (rV a0), none, some (iV a2), some (iV b0), none], [], w7))) else none else none else none else none else none else none := by
  rfl
set_option maxRecDepth 100000 in
theorem eX12_spelt_0 (C : sC) (w : sW) (a0 a1 a2 a3 a4 a5 a6 : Int) : sg C mX12_spelt 2000 0 [some (iV a0), some (iV a1), some (iV a2), some (iV a3), some (iV a4), some (iV a5), some (iV a6), none, none] [] w =
  if 0 < a2 then
   (if 0 < a3 then
    (if 0 < a4 then
     (some (.inl (78, [none, none, none, none, none, some (iV a5), some (iV a6), some (lV (w64 ((w64 ((w64 (27 * (w64 ((w64 ((w64 (27 * (w64 ((w64 ((w64 (27 * (w64 ((w64 ((w64 (27 * (w64 (a0 - 96)))) + a1)) - 96)))) + a2)) - 96)))) + a3)) - 96)))) + a4)) - 96))), none], [], w)))
    else
    some (.inl (78, [none, none, none, none, none, some (iV a5), some (iV a6), some (lV (w64 ((w64 ((w64 (27 * (w64 ((w64 ((w64 (27 * (w64 ((w64 ((w64 (27 * (w64 (a0 - 96)))) + a1)) - 96)))) + a2)) - 96)))) + a3)) - 96))), none], [], w)))
   else
   if 0 < a4 then
    (some (.inl (78, [none, none, none, none, none, some (iV a5), some (iV a6), some (lV (w64 ((w64 ((w64 (27 * (w64 ((w64 ((w64 (27 * (w64 ((w64 ((w64 (27 * (w64 (a0 - 96)))) + a1)) - 96)))) + a2)) - 96)))) + a4)) - 96))), none], [], w)))
   else
   some (.inl (78, [none, none, none, none, none, some (iV a5), some (iV a6), some (lV (w64 ((w64 ((w64 (27 * (w64 ((w64 ((w64 (27 * (w64 (a0 - 96)))) + a1)) - 96)))) + a2)) - 96))), none], [], w)))
  else
  if 0 < a3 then
   (if 0 < a4 then
    (some (.inl (78, [none, none, none, none, none, some (iV a5), some (iV a6), some (lV (w64 ((w64 ((w64 (27 * (w64 ((w64 ((w64 (27 * (w64 ((w64 ((w64 (27 * (w64 (a0 - 96)))) + a1)) - 96)))) + a3)) - 96)))) + a4)) - 96))), none], [], w)))
   else
   some (.inl (78, [none, none, none, none, none, some (iV a5), some (iV a6), some (lV (w64 ((w64 ((w64 (27 * (w64 ((w64 ((w64 (27 * (w64 (a0 - 96)))) + a1)) - 96)))) + a3)) - 96))), none], [], w)))
  else
  if 0 < a4 then
   (some (.inl (78, [none, none, none, none, none, some (iV a5), some (iV a6), some (lV (w64 ((w64 ((w64 (27 * (w64 ((w64 ((w64 (27 * (w64 (a0 - 96)))) + a1)) - 96)))) + a4)) - 96))), none], [], w)))
  else
  some (.inl (78, [none, none, none, none, none, some (iV a5), some (iV a6), some (lV (w64 ((w64 ((w64 (27 * (w64 (a0 - 96)))) + a1)) - 96))), none], [], w)) := by
  rfl
set_option maxRecDepth 100000 in
theorem eX12_spelt_78 (C : sC) (w : sW) (a5 a6 a7 : Int) : sg C mX12_spelt 2000 78 [none, none, none, none, none, some (iV a5), some (iV a6), some (lV a7), none] [] w =
  if 0 < a5 then
   (if 0 < a6 then
    (some (.inr (some (lV (w64 ((w64 ((w64 (27 * (w64 ((w64 ((w64 (27 * a7)) + a5)) - 96)))) + a6)) - 96))), w)))
   else
   some (.inr (some (lV (w64 ((w64 ((w64 (27 * a7)) + a5)) - 96))), w)))
  else
  if 0 < a6 then
   (some (.inr (some (lV (w64 ((w64 ((w64 (27 * a7)) + a6)) - 96))), w)))
  else
  some (.inr (some (lV a7), w)) := by
  rfl
set_option maxRecDepth 100000 in
theorem eX12_wordOf_0 (C : sC) (w : sW) (a0 : Int) : sg C mX12_wordOf 2000 0 [some (iV a0)] [] w =
  if a0 = 0 then
   (bL (C 160 w [iV 108, iV 101, iV 97, iV 102, iV 0, iV 0, iV 0]) (fun y2 w1 =>
   some (.inr (some (lV y2), w1))))
  else if a0 = 1 then
   (bL (C 160 w [iV 114, iV 111, iV 119, iV 0, iV 0, iV 0, iV 0]) (fun y4 w3 =>
   some (.inr (some (lV y4), w3))))
  else if a0 = 2 then
   (bL (C 160 w [iV 108, iV 101, iV 116, iV 116, iV 101, iV 114, iV 115]) (fun y6 w5 =>
   some (.inr (some (lV y6), w5))))
  else if a0 = 3 then
   (bL (C 160 w [iV 112, iV 117, iV 116, iV 0, iV 0, iV 0, iV 0]) (fun y8 w7 =>
   some (.inr (some (lV y8), w7))))
  else if a0 = 4 then
   (bL (C 160 w [iV 115, iV 101, iV 116, iV 0, iV 0, iV 0, iV 0]) (fun y10 w9 =>
   some (.inr (some (lV y10), w9))))
  else if a0 = 5 then
   (bL (C 160 w [iV 99, iV 117, iV 116, iV 0, iV 0, iV 0, iV 0]) (fun y12 w11 =>
   some (.inr (some (lV y12), w11))))
  else if a0 = 6 then
   (bL (C 160 w [iV 116, iV 117, iV 114, iV 110, iV 0, iV 0, iV 0]) (fun y14 w13 =>
   some (.inr (some (lV y14), w13))))
  else if a0 = 7 then
   (bL (C 160 w [iV 106, iV 111, iV 105, iV 110, iV 0, iV 0, iV 0]) (fun y16 w15 =>
   some (.inr (some (lV y16), w15))))
  else if a0 = 8 then
   (bL (C 160 w [iV 115, iV 112, iV 108, iV 105, iV 116, iV 0, iV 0]) (fun y18 w17 =>
   some (.inr (some (lV y18), w17))))
  else if a0 = 9 then
   (bL (C 160 w [iV 116, iV 121, iV 112, iV 101, iV 0, iV 0, iV 0]) (fun y20 w19 =>
   some (.inr (some (lV y20), w19))))
  else if a0 = 10 then
   (bL (C 160 w [iV 101, iV 114, iV 97, iV 115, iV 101, iV 0, iV 0]) (fun y22 w21 =>
   some (.inr (some (lV y22), w21))))
  else if a0 = 11 then
   (bL (C 160 w [iV 111, iV 114, iV 0, iV 0, iV 0, iV 0, iV 0]) (fun y24 w23 =>
   some (.inr (some (lV y24), w23))))
  else if a0 = 12 then
   (bL (C 160 w [iV 97, iV 110, iV 100, iV 0, iV 0, iV 0, iV 0]) (fun y26 w25 =>
   some (.inr (some (lV y26), w25))))
  else if a0 = 13 then
   (bL (C 160 w [iV 110, iV 111, iV 116, iV 0, iV 0, iV 0, iV 0]) (fun y28 w27 =>
   some (.inr (some (lV y28), w27))))
  else if a0 = 14 then
   (bL (C 160 w [iV 101, iV 109, iV 112, iV 116, iV 121, iV 0, iV 0]) (fun y30 w29 =>
   some (.inr (some (lV y30), w29))))
  else if a0 = 15 then
   (bL (C 160 w [iV 101, iV 118, iV 101, iV 110, iV 0, iV 0, iV 0]) (fun y32 w31 =>
   some (.inr (some (lV y32), w31))))
  else if a0 = 16 then
   (bL (C 160 w [iV 108, iV 105, iV 107, iV 101, iV 0, iV 0, iV 0]) (fun y34 w33 =>
   some (.inr (some (lV y34), w33))))
  else if a0 = 17 then
   (bL (C 160 w [iV 98, iV 101, iV 103, iV 105, iV 110, iV 115, iV 0]) (fun y36 w35 =>
   some (.inr (some (lV y36), w35))))
  else if a0 = 18 then
   (bL (C 160 w [iV 115, iV 105, iV 122, iV 101, iV 0, iV 0, iV 0]) (fun y38 w37 =>
   some (.inr (some (lV y38), w37))))
  else if a0 = 19 then
   (bL (C 160 w [iV 111, iV 110, iV 101, iV 115, iV 0, iV 0, iV 0]) (fun y40 w39 =>
   some (.inr (some (lV y40), w39))))
  else if a0 = 20 then
   (bL (C 160 w [iV 114, iV 117, iV 110, iV 115, iV 0, iV 0, iV 0]) (fun y42 w41 =>
   some (.inr (some (lV y42), w41))))
  else if a0 = 21 then
   (bL (C 160 w [iV 108, iV 101, iV 97, iV 118, iV 101, iV 115, iV 0]) (fun y44 w43 =>
   some (.inr (some (lV y44), w43))))
  else bL (C 160 w [iV 110, iV 117, iV 109, iV 98, iV 101, iV 114, iV 0]) (fun y46 w45 =>
  some (.inr (some (lV y46), w45))) := by
  rfl
set_option maxRecDepth 100000 in
theorem eX12_isWord_0 (C : sC) (w : sW) (a0 a1 : Int) : sg C mX12_isWord 2000 0 [some (rV a0), some (iV a1)] [] w =
  if kd w a0 = 10 then
  if (gv w a0 7) = 2 then
   (if kd w a0 = 10 then
   bL (C 161 w [iV a1]) (fun y2 w1 =>
   if (cmpL (gv w a0 12) y2) = 0 then
    (some (.inr (some (iV 1), w1)))
   else
   some (.inr (some (iV 0), w1))) else none)
  else
  some (.inr (some (iV 0), w)) else none := by
  rfl
set_option maxRecDepth 100000 in
theorem eX12_isSign_0 (C : sC) (w : sW) (a0 a1 : Int) : sg C mX12_isSign 2000 0 [some (rV a0), some (iV a1)] [] w =
  if kd w a0 = 10 then
  if (gv w a0 7) = 4 then
   (if kd w a0 = 10 then
   if (gv w a0 9) = a1 then
    (some (.inr (some (iV 1), w)))
   else
   some (.inr (some (iV 0), w)) else none)
  else
  some (.inr (some (iV 0), w)) else none := by
  rfl
set_option maxRecDepth 100000 in
theorem eX12_isName_0 (C : sC) (w : sW) (a0 : Int) : sg C mX12_isName 2000 0 [some (rV a0), none] [] w =
  if kd w a0 = 10 then
  if (gv w a0 7) = 2 then
   (some (.inl (12, [some (rV a0), some (iV 0)], [], w)))
  else
  some (.inr (some (iV 0), w)) else none := by
  rfl
set_option maxRecDepth 100000 in
theorem eX12_isName_12 (C : sC) (w : sW) (a0 a1 : Int) : sg C mX12_isName 2000 12 [some (rV a0), some (iV a1)] [] w =
  if 22 < a1 then
   (some (.inr (some (iV 1), w)))
  else
  if kd w a0 = 10 then
  bL (C 161 w [iV a1]) (fun y2 w1 =>
  if (cmpL (gv w a0 12) y2) = 0 then
   (some (.inr (some (iV 0), w1)))
  else
  some (.inl (12, [some (rV a0), some (iV (w32 (a1 + 1)))], [], w1))) else none := by
  rfl
set_option maxRecDepth 100000 in
theorem eX12_bad_0 (C : sC) (w : sW) (a0 a1 : Int) : sg C mX12_bad 2000 0 [some (rV a0), some (iV a1)] [] w =
  if kd w a0 = 10 then
  if (gv w a0 7) = 1 then
   (if kd w a0 = 10 then
   wl (sv w a0 10 1) (fun w1 =>
   if kd w1 a0 = 10 then
   if kd w1 a0 = 10 then
   wl (sv w1 a0 11 (gv w1 a0 6)) (fun w2 =>
   some (.inr (some (iV 0), w2))) else none else none) else none)
  else
  if kd w a0 = 10 then
  wl (sv w a0 10 a1) (fun w3 =>
  if kd w3 a0 = 10 then
  if kd w3 a0 = 10 then
  wl (sv w3 a0 11 (gv w3 a0 6)) (fun w4 =>
  some (.inr (some (iV 0), w4))) else none else none) else none else none := by
  rfl
set_option maxRecDepth 100000 in
theorem eX12_readNumber_0 (C : sC) (w : sW) (a0 a1 a2 : Int) : sg C mX12_readNumber 2000 0 [some (rV a0), some (iV a1), some (iV a2)] [] w =
  if kd w a0 = 10 then
  if (gv w a0 7) = 3 then
   (if kd w a0 = 10 then
   bI (C 155 w [iV (gv w a0 8), iV a1, iV a2]) (fun x2 w1 =>
   if x2 = 0 then
    (if kd w1 a0 = 10 then
    bI (C 165 w1 [rV a0, iV 2]) (fun x4 w3 =>
    if x4 = 0 ∨ x4 = 1 then some (.inr (some (iV x4), w3)) else none) else none)
   else
   if kd w1 a0 = 10 then
   if kd w1 a0 = 10 then
   wl (sv w1 a0 13 (gv w1 a0 8)) (fun w5 =>
   if kd w5 a0 = 10 then
   bN (C 159 w5 [rV a0]) (fun w6 =>
   some (.inr (some (iV 1), w6))) else none) else none else none) else none)
  else
  if kd w a0 = 10 then
  bI (C 165 w [rV a0, iV 1]) (fun x8 w7 =>
  if x8 = 0 ∨ x8 = 1 then some (.inr (some (iV x8), w7)) else none) else none else none := by
  rfl
set_option maxRecDepth 100000 in
theorem eX12_readEnd_0 (C : sC) (w : sW) (a0 : Int) : sg C mX12_readEnd 2000 0 [some (rV a0)] [] w =
  if kd w a0 = 10 then
  bI (C 163 w [rV a0, iV 59]) (fun x2 w1 =>
  if x2 = 0 then
   (if kd w1 a0 = 10 then
   bI (C 165 w1 [rV a0, iV 1]) (fun x4 w3 =>
   if x4 = 0 ∨ x4 = 1 then some (.inr (some (iV x4), w3)) else none) else none)
  else
  if kd w1 a0 = 10 then
  bN (C 159 w1 [rV a0]) (fun w5 =>
  some (.inr (some (iV 1), w5))) else none) else none := by
  rfl
set_option maxRecDepth 100000 in
theorem eX12_begin_0 (C : sC) (w : sW) (a0 a1 : Int) : sg C mX12_begin 2000 0 [some (rV a0), some (iV a1)] [] w =
  if kd w a0 = 10 then
  wl (sv w a0 0 0) (fun w1 =>
  if kd w1 a0 = 10 then
  bI (C 154 w1 [rV a0]) (fun x3 w2 =>
  if kd w2 a0 = 10 then
  wl (sv w2 a0 3 x3) (fun w4 =>
  if kd w4 a0 = 10 then
  wl (sv w4 a0 4 a1) (fun w5 =>
  if kd w5 a0 = 10 then
  wl (sv w5 a0 10 0) (fun w6 =>
  if kd w6 a0 = 10 then
  wl (sv w6 a0 5 0) (fun w7 =>
  if kd w7 a0 = 10 then
  bN (C 159 w7 [rV a0]) (fun w8 =>
  some (.inr (none, w8))) else none) else none) else none) else none) else none) else none) else none := by
  rfl
set_option maxRecDepth 100000 in
theorem eX12_init_0 (C : sC) (w : sW) (a0 : Int) : sg C mX12_init 2000 0 [some (rV a0)] [] w =
  if kd w a0 = 10 then
  if 0 ≤ (940 : Int) ∧ (940 : Int) ≤ 100000 then
  wl (al w 20 940 (Int.toNat 940)) (fun w1 =>
  if kd w1 a0 = 10 then
  wl (sv w1 a0 1 (nx w)) (fun w2 =>
  if 0 ≤ (6062 : Int) ∧ (6062 : Int) ≤ 100000 then
  wl (al w2 20 6062 (Int.toNat 6062)) (fun w3 =>
  if kd w3 a0 = 10 then
  wl (sv w3 a0 14 (nx w2)) (fun w4 =>
  if 0 ≤ (2607 : Int) ∧ (2607 : Int) ≤ 100000 then
  wl (al w4 20 2607 (Int.toNat 2607)) (fun w5 =>
  if kd w5 a0 = 10 then
  wl (sv w5 a0 15 (nx w4)) (fun w6 =>
  if 0 ≤ (12124 : Int) ∧ (12124 : Int) ≤ 100000 then
  wl (al w6 20 12124 (Int.toNat 12124)) (fun w7 =>
  if kd w7 a0 = 10 then
  wl (sv w7 a0 16 (nx w6)) (fun w8 =>
  if 0 ≤ (25704 : Int) ∧ (25704 : Int) ≤ 100000 then
  wl (al w8 20 25704 (Int.toNat 25704)) (fun w9 =>
  if kd w9 a0 = 10 then
  wl (sv w9 a0 17 (nx w8)) (fun w10 =>
  if 0 ≤ (3213 : Int) ∧ (3213 : Int) ≤ 100000 then
  wl (al w10 20 3213 (Int.toNat 3213)) (fun w11 =>
  if kd w11 a0 = 10 then
  wl (sv w11 a0 18 (nx w10)) (fun w12 =>
  if 0 ≤ (3213 : Int) ∧ (3213 : Int) ≤ 100000 then
  wl (al w12 20 3213 (Int.toNat 3213)) (fun w13 =>
  if kd w13 a0 = 10 then
  wl (sv w13 a0 19 (nx w12)) (fun w14 =>
  if 0 ≤ (4 : Int) ∧ (4 : Int) ≤ 100000 then
  wl (al w14 22 4 (Int.toNat 4)) (fun w15 =>
  if kd w15 a0 = 10 then
  wl (sv w15 a0 20 (nx w14)) (fun w16 =>
  if 0 ≤ (4 : Int) ∧ (4 : Int) ≤ 100000 then
  wl (al w16 22 4 (Int.toNat 4)) (fun w17 =>
  if kd w17 a0 = 10 then
  wl (sv w17 a0 21 (nx w16)) (fun w18 =>
  if 0 ≤ (8 : Int) ∧ (8 : Int) ≤ 100000 then
  wl (al w18 22 8 (Int.toNat 8)) (fun w19 =>
  if kd w19 a0 = 10 then
  wl (sv w19 a0 22 (nx w18)) (fun w20 =>
  if 0 ≤ (2 : Int) ∧ (2 : Int) ≤ 100000 then
  wl (al w20 23 2 (Int.toNat 2)) (fun w21 =>
  if kd w21 a0 = 10 then
  wl (sv w21 a0 23 (nx w20)) (fun w22 =>
  if 0 ≤ (600 : Int) ∧ (600 : Int) ≤ 100000 then
  wl (al w22 20 600 (Int.toNat 600)) (fun w23 =>
  if kd w23 a0 = 10 then
  wl (sv w23 a0 27 (nx w22)) (fun w24 =>
  if 0 ≤ (160 : Int) ∧ (160 : Int) ≤ 100000 then
  wl (al w24 20 160 (Int.toNat 160)) (fun w25 =>
  if kd w25 a0 = 10 then
  wl (sv w25 a0 30 (nx w24)) (fun w26 =>
  if 0 ≤ (4 : Int) ∧ (4 : Int) ≤ 100000 then
  wl (al w26 20 4 (Int.toNat 4)) (fun w27 =>
  if kd w27 a0 = 10 then
  wl (sv w27 a0 31 (nx w26)) (fun w28 =>
  if 0 ≤ (240 : Int) ∧ (240 : Int) ≤ 100000 then
  wl (al w28 20 240 (Int.toNat 240)) (fun w29 =>
  if kd w29 a0 = 10 then
  wl (sv w29 a0 34 (nx w28)) (fun w30 =>
  if kd w30 a0 = 10 then
  if (kd w30 (gv w30 a0 14) = 20 ∧ 32 ≤ (gv w30 a0 14)) ∧ 0 ≤ (1 : Int) ∧ (1 : Int) < ln w30 (gv w30 a0 14) then
  wl (sv w30 (gv w30 a0 14) 1 8) (fun w31 =>
  some (.inr (none, w31))) else none else none) else none) else none) else none) else none) else none) else none) else none) else none) else none) else none) else none) else none) else none) else none) else none) else none) else none) else none) else none) else none) else none) else none) else none) else none) else none) else none) else none) else none) else none) else none else none := by
  rfl
set_option maxRecDepth 100000 in
theorem eX12_startSo_0 (C : sC) (w : sW) (a0 : Int) : sg C mX12_startSo 2000 0 [some (rV a0), none, none] [] w =
  some (.inl (4, [some (rV a0), some (iV 2607), none], [], w)) := by
  rfl
set_option maxRecDepth 100000 in
theorem eX12_startSo_4 (C : sC) (w : sW) (a0 a1 : Int) : sg C mX12_startSo 2000 4 [some (rV a0), some (iV a1), none] [] w =
  if a1 < 6062 then
   (if kd w a0 = 10 then
   if (kd w (gv w a0 14) = 20 ∧ 32 ≤ (gv w a0 14)) ∧ 0 ≤ a1 ∧ a1 < ln w (gv w a0 14) then
   wl (sv w (gv w a0 14) a1 0) (fun w1 =>
   some (.inl (4, [some (rV a0), some (iV (w32 (a1 + 1))), none], [], w1))) else none else none)
  else
  some (.inl (26, [some (rV a0), some (iV 0), none], [], w)) := by
  rfl
set_option maxRecDepth 100000 in
theorem eX12_startSo_26 (C : sC) (w : sW) (a0 a1 : Int) : sg C mX12_startSo 2000 26 [some (rV a0), some (iV a1), none] [] w =
  if kd w a0 = 10 then
  if kd w (gv w a0 14) = 20 ∧ 0 ≤ (0 : Int) ∧ (0 : Int) < ln w (gv w a0 14) then
  if a1 < (gv w (gv w a0 14) 0) then
   (some (.inl (38, [some (rV a0), some (iV a1), some (iV 0)], [], w)))
  else
  if kd w a0 = 10 then
  if kd w a0 = 10 then
  if kd w (gv w a0 14) = 20 ∧ 0 ≤ (6 : Int) ∧ (6 : Int) < ln w (gv w a0 14) then
  if (kd w (gv w a0 14) = 20 ∧ 32 ≤ (gv w a0 14)) ∧ 0 ≤ (2615 : Int) ∧ (2615 : Int) < ln w (gv w a0 14) then
  wl (sv w (gv w a0 14) 2615 (gv w (gv w a0 14) 6)) (fun w1 =>
  some (.inl (101, [some (rV a0), some (iV 0), none], [], w1))) else none else none else none else none else none else none := by
  rfl
set_option maxRecDepth 100000 in
theorem eX12_startSo_38 (C : sC) (w : sW) (a0 a1 a2 : Int) : sg C mX12_startSo 2000 38 [some (rV a0), some (iV a1), some (iV a2)] [] w =
  if kd w a0 = 10 then
  if kd w (gv w a0 14) = 20 ∧ 0 ≤ (w32 (2 + a1)) ∧ (w32 (2 + a1)) < ln w (gv w a0 14) then
  if a2 < (gv w (gv w a0 14) (w32 (2 + a1))) then
   (if kd w a0 = 10 then
   if kd w (gv w a0 14) = 20 ∧ 0 ≤ (w32 ((w32 (207 + (w32 (600 * a1)))) + a2)) ∧ (w32 ((w32 (207 + (w32 (600 * a1)))) + a2)) < ln w (gv w a0 14) then
   if kd w a0 = 10 then
   bN (C 185 w [rV a0, iV a1, iV a2, iV (gv w (gv w a0 14) (w32 ((w32 (207 + (w32 (600 * a1)))) + a2)))]) (fun w1 =>
   some (.inl (38, [some (rV a0), some (iV a1), some (iV (w32 (a2 + 1)))], [], w1))) else none else none else none)
  else
  some (.inl (26, [some (rV a0), some (iV (w32 (a1 + 1))), none], [], w)) else none else none := by
  rfl
set_option maxRecDepth 100000 in
theorem eX12_startSo_101 (C : sC) (w : sW) (a0 a1 : Int) : sg C mX12_startSo 2000 101 [some (rV a0), some (iV a1), none] [] w =
  if a1 < 200 then
   (if kd w a0 = 10 then
   if kd w a0 = 10 then
   if kd w (gv w a0 14) = 20 ∧ 0 ≤ (w32 (7 + a1)) ∧ (w32 (7 + a1)) < ln w (gv w a0 14) then
   if (kd w (gv w a0 14) = 20 ∧ 32 ≤ (gv w a0 14)) ∧ 0 ≤ (w32 (2616 + a1)) ∧ (w32 (2616 + a1)) < ln w (gv w a0 14) then
   wl (sv w (gv w a0 14) (w32 (2616 + a1)) (gv w (gv w a0 14) (w32 (7 + a1)))) (fun w1 =>
   some (.inl (101, [some (rV a0), some (iV (w32 (a1 + 1))), none], [], w1))) else none else none else none else none)
  else
  some (.inr (none, w)) := by
  rfl
set_option maxRecDepth 100000 in
theorem eX12_findIn_0 (C : sC) (w : sW) (a0 a1 a2 : Int) : sg C mX12_findIn 2000 0 [some (rV a0), some (iV a1), some (lV a2), none, none] [] w =
  some (.inl (3, [some (rV a0), some (iV a1), some (lV a2), none, some (iV 0)], [], w)) := by
  rfl
set_option maxRecDepth 100000 in
theorem eX12_findIn_3 (C : sC) (w : sW) (a0 a1 a2 a4 : Int) : sg C mX12_findIn 2000 3 [some (rV a0), some (iV a1), some (lV a2), none, some (iV a4)] [] w =
  if a4 < a1 then
   (if kd w a0 = 22 ∧ 0 ≤ a4 ∧ a4 < ln w a0 then
   if (cmpL (gv w a0 a4) a2) = 0 then
    (some (.inr (some (iV a4), w)))
   else
   some (.inl (3, [some (rV a0), some (iV a1), some (lV a2), none, some (iV (w32 (a4 + 1)))], [], w)) else none)
  else
  some (.inr (some (iV (-1)), w)) := by
  rfl
set_option maxRecDepth 100000 in
theorem eX12_readLeaf_0 (C : sC) (w : sW) (a0 a1 : Int) : sg C mX12_readLeaf 2000 0 [some (rV a0), some (iV a1)] [] w =
  if 0 < a1 then
   (if kd w a0 = 10 then
   bI (C 165 w [rV a0, iV 3]) (fun x2 w1 =>
   if x2 = 0 ∨ x2 = 1 then some (.inr (some (iV x2), w1)) else none) else none)
  else
  if kd w a0 = 10 then
  bN (C 159 w [rV a0]) (fun w3 =>
  if kd w3 a0 = 10 then
  bI (C 166 w3 [rV a0, iV 4, iV 32]) (fun x5 w4 =>
  if x5 = 0 then
   (some (.inr (some (iV 0), w4)))
  else
  if kd w4 a0 = 10 then
  if kd w4 a0 = 10 then
  if (kd w4 (gv w4 a0 15) = 20 ∧ 32 ≤ (gv w4 a0 15)) ∧ 0 ≤ (1 : Int) ∧ (1 : Int) < ln w4 (gv w4 a0 15) then
  wl (sv w4 (gv w4 a0 15) 1 (gv w4 a0 13)) (fun w6 =>
  some (.inr (some (iV 1), w6))) else none else none else none) else none) else none := by
  rfl
set_option maxRecDepth 100000 in
theorem eX12_areOf_0 (C : sC) (w : sW) (a0 a1 : Int) : sg C mX12_areOf 2000 0 [some (rV a0), some (iV a1), none] [] w =
  if kd w a0 = 10 then
  some (.inl (5, [some (rV a0), some (iV a1), some (iV (gv w a0 6))], [], w)) else none := by
  rfl
set_option maxRecDepth 100000 in
theorem eX12_areOf_5 (C : sC) (w : sW) (a0 a1 a2 : Int) : sg C mX12_areOf 2000 5 [some (rV a0), some (iV a1), some (iV a2)] [] w =
  if kd w a0 = 10 then
  if a2 < (gv w a0 5) then
   (if kd w a0 = 10 then
   if kd w (gv w a0 1) = 20 ∧ 0 ≤ a2 ∧ a2 < ln w (gv w a0 1) then
   if a1 < (gv w (gv w a0 1) a2) then
    (some (.inr (some (iV 0), w)))
   else
   some (.inl (5, [some (rV a0), some (iV a1), some (iV (w32 (a2 + 1)))], [], w)) else none else none)
  else
  some (.inr (some (iV 1), w)) else none := by
  rfl
set_option maxRecDepth 100000 in
theorem eX12_areBits_0 (C : sC) (w : sW) (a0 : Int) : sg C mX12_areBits 2000 0 [some (rV a0), none] [] w =
  if kd w a0 = 10 then
  some (.inl (5, [some (rV a0), some (iV (gv w a0 6))], [], w)) else none := by
  rfl
set_option maxRecDepth 100000 in
theorem eX12_areBits_5 (C : sC) (w : sW) (a0 a1 : Int) : sg C mX12_areBits 2000 5 [some (rV a0), some (iV a1)] [] w =
  if kd w a0 = 10 then
  if a1 < (gv w a0 5) then
   (if kd w a0 = 10 then
   if kd w (gv w a0 1) = 20 ∧ 0 ≤ a1 ∧ a1 < ln w (gv w a0 1) then
   if (gv w (gv w a0 1) a1) = 105 then
    (some (.inl (5, [some (rV a0), some (iV (w32 (a1 + 1)))], [], w)))
   else
   if kd w a0 = 10 then
   if kd w (gv w a0 1) = 20 ∧ 0 ≤ a1 ∧ a1 < ln w (gv w a0 1) then
   if (gv w (gv w a0 1) a1) = 111 then
    (some (.inl (5, [some (rV a0), some (iV (w32 (a1 + 1)))], [], w)))
   else
   some (.inr (some (iV 0), w)) else none else none else none else none)
  else
  some (.inr (some (iV 1), w)) else none := by
  rfl
set_option maxRecDepth 100000 in
theorem eX12_readRow_0 (C : sC) (w : sW) (a0 : Int) : sg C mX12_readRow 2000 0 [some (rV a0), none, none] [] w =
  if kd w a0 = 10 then
  if kd w (gv w a0 15) = 20 ∧ 0 ≤ (0 : Int) ∧ (0 : Int) < ln w (gv w a0 15) then
  if (gv w (gv w a0 15) 0) = 4 then
   (if kd w a0 = 10 then
   bI (C 165 w [rV a0, iV 4]) (fun x2 w1 =>
   if x2 = 0 ∨ x2 = 1 then some (.inr (some (iV x2), w1)) else none) else none)
  else
  if kd w a0 = 10 then
  if kd w (gv w a0 15) = 20 ∧ 0 ≤ (0 : Int) ∧ (0 : Int) < ln w (gv w a0 15) then
  if kd w a0 = 10 then
  bN (C 159 w [rV a0]) (fun w3 =>
  if kd w3 a0 = 10 then
  bI (C 164 w3 [rV a0]) (fun x5 w4 =>
  if x5 = 0 then
   (if kd w4 a0 = 10 then
   bI (C 165 w4 [rV a0, iV 1]) (fun x7 w6 =>
   if x7 = 0 ∨ x7 = 1 then some (.inr (some (iV x7), w6)) else none) else none)
  else
  if kd w4 a0 = 10 then
  if kd w4 a0 = 10 then
  bI (C 171 w4 [rV (gv w4 a0 21), iV (gv w (gv w a0 15) 0), lV (gv w4 a0 12)]) (fun x9 w8 =>
  if x9 = (-1) then
   (if kd w8 a0 = 10 then
   if kd w8 a0 = 10 then
   if kd w8 (gv w8 a0 21) = 22 ∧ 0 ≤ (gv w (gv w a0 15) 0) ∧ (gv w (gv w a0 15) 0) < ln w8 (gv w8 a0 21) then
   wl (sv w8 (gv w8 a0 21) (gv w (gv w a0 15) 0) (gv w8 a0 12)) (fun w10 =>
   if kd w10 a0 = 10 then
   if kd w10 (gv w10 a0 15) = 20 ∧ 0 ≤ (0 : Int) ∧ (0 : Int) < ln w10 (gv w10 a0 15) then
   if (kd w10 (gv w10 a0 15) = 20 ∧ 32 ≤ (gv w10 a0 15)) ∧ 0 ≤ (0 : Int) ∧ (0 : Int) < ln w10 (gv w10 a0 15) then
   wl (sv w10 (gv w10 a0 15) 0 (w32 ((gv w10 (gv w10 a0 15) 0) + 1))) (fun w11 =>
   if kd w11 a0 = 10 then
   bN (C 159 w11 [rV a0]) (fun w12 =>
   some (.inl (86, [some (rV a0), some (iV (gv w (gv w a0 15) 0)), none], [], w12))) else none) else none else none else none) else none else none else none)
  else
  if kd w8 a0 = 10 then
  bI (C 165 w8 [rV a0, iV 3]) (fun x14 w13 =>
  if x14 = 0 ∨ x14 = 1 then some (.inr (some (iV x14), w13)) else none) else none) else none else none) else none) else none else none else none else none else none := by
  rfl
set_option maxRecDepth 100000 in
theorem eX12_readRow_86 (C : sC) (w : sW) (a0 a1 : Int) : sg C mX12_readRow 2000 86 [some (rV a0), some (iV a1), none] [] w =
  if kd w a0 = 10 then
  if (gv w a0 7) = 2 then
   (if kd w a0 = 10 then
   bI (C 174 w [rV a0]) (fun x2 w1 =>
   if x2 = 0 then
    (if kd w1 a0 = 10 then
    bI (C 165 w1 [rV a0, iV 2]) (fun x4 w3 =>
    if x4 = 0 ∨ x4 = 1 then some (.inr (some (iV x4), w3)) else none) else none)
   else
   if kd w1 a0 = 10 then
   if kd w1 (gv w1 a0 15) = 20 ∧ 0 ≤ (w32 (2 + a1)) ∧ (w32 (2 + a1)) < ln w1 (gv w1 a0 15) then
   if kd w1 a0 = 10 then
   if kd w1 a0 = 10 then
   if 600 < (w32 ((w32 ((gv w1 (gv w1 a0 15) (w32 (2 + a1))) + (gv w1 a0 5))) - (gv w1 a0 6))) then
    (if kd w1 a0 = 10 then
    bI (C 165 w1 [rV a0, iV 4]) (fun x6 w5 =>
    if x6 = 0 ∨ x6 = 1 then some (.inr (some (iV x6), w5)) else none) else none)
   else
   if kd w1 a0 = 10 then
   some (.inl (142, [some (rV a0), some (iV a1), some (iV (gv w1 a0 6))], [], w1)) else none else none else none else none else none) else none)
  else
  some (.inr (some (iV 1), w)) else none := by
  rfl
set_option maxRecDepth 100000 in
theorem eX12_readRow_142 (C : sC) (w : sW) (a0 a1 a2 : Int) : sg C mX12_readRow 2000 142 [some (rV a0), some (iV a1), some (iV a2)] [] w =
  if kd w a0 = 10 then
  if a2 < (gv w a0 5) then
   (if kd w a0 = 10 then
   if kd w a0 = 10 then
   if kd w (gv w a0 15) = 20 ∧ 0 ≤ (w32 (2 + a1)) ∧ (w32 (2 + a1)) < ln w (gv w a0 15) then
   if kd w a0 = 10 then
   if kd w (gv w a0 1) = 20 ∧ 0 ≤ a2 ∧ a2 < ln w (gv w a0 1) then
   if (gv w (gv w a0 1) a2) = 105 then
    (if (kd w (gv w a0 15) = 20 ∧ 32 ≤ (gv w a0 15)) ∧ 0 ≤ (w32 ((w32 (207 + (w32 (600 * a1)))) + (gv w (gv w a0 15) (w32 (2 + a1))))) ∧ (w32 ((w32 (207 + (w32 (600 * a1)))) + (gv w (gv w a0 15) (w32 (2 + a1))))) < ln w (gv w a0 15) then
    wl (sv w (gv w a0 15) (w32 ((w32 (207 + (w32 (600 * a1)))) + (gv w (gv w a0 15) (w32 (2 + a1))))) 1) (fun w1 =>
    if kd w1 a0 = 10 then
    if kd w1 (gv w1 a0 15) = 20 ∧ 0 ≤ (w32 (2 + a1)) ∧ (w32 (2 + a1)) < ln w1 (gv w1 a0 15) then
    if (kd w1 (gv w1 a0 15) = 20 ∧ 32 ≤ (gv w1 a0 15)) ∧ 0 ≤ (w32 (2 + a1)) ∧ (w32 (2 + a1)) < ln w1 (gv w1 a0 15) then
    wl (sv w1 (gv w1 a0 15) (w32 (2 + a1)) (w32 ((gv w1 (gv w1 a0 15) (w32 (2 + a1))) + 1))) (fun w2 =>
    some (.inl (142, [some (rV a0), some (iV a1), some (iV (w32 (a2 + 1)))], [], w2))) else none else none else none) else none)
   else
   if (kd w (gv w a0 15) = 20 ∧ 32 ≤ (gv w a0 15)) ∧ 0 ≤ (w32 ((w32 (207 + (w32 (600 * a1)))) + (gv w (gv w a0 15) (w32 (2 + a1))))) ∧ (w32 ((w32 (207 + (w32 (600 * a1)))) + (gv w (gv w a0 15) (w32 (2 + a1))))) < ln w (gv w a0 15) then
   wl (sv w (gv w a0 15) (w32 ((w32 (207 + (w32 (600 * a1)))) + (gv w (gv w a0 15) (w32 (2 + a1))))) 0) (fun w3 =>
   if kd w3 a0 = 10 then
   if kd w3 (gv w3 a0 15) = 20 ∧ 0 ≤ (w32 (2 + a1)) ∧ (w32 (2 + a1)) < ln w3 (gv w3 a0 15) then
   if (kd w3 (gv w3 a0 15) = 20 ∧ 32 ≤ (gv w3 a0 15)) ∧ 0 ≤ (w32 (2 + a1)) ∧ (w32 (2 + a1)) < ln w3 (gv w3 a0 15) then
   wl (sv w3 (gv w3 a0 15) (w32 (2 + a1)) (w32 ((gv w3 (gv w3 a0 15) (w32 (2 + a1))) + 1))) (fun w4 =>
   some (.inl (142, [some (rV a0), some (iV a1), some (iV (w32 (a2 + 1)))], [], w4))) else none else none else none) else none else none else none else none else none else none)
  else
  if kd w a0 = 10 then
  bN (C 159 w [rV a0]) (fun w5 =>
  some (.inl (86, [some (rV a0), some (iV a1), none], [], w5))) else none else none := by
  rfl
set_option maxRecDepth 100000 in
theorem eX12_readLetters_0 (C : sC) (w : sW) (a0 : Int) : sg C mX12_readLetters 2000 0 [some (rV a0), none] [] w =
  if kd w a0 = 10 then
  if (gv w a0 25) = 0 then
   (if kd w a0 = 10 ∧ ((1 : Int) = 0 ∨ (1 : Int) = 1) then
   wl (sv w a0 25 1) (fun w1 =>
   if kd w1 a0 = 10 then
   bN (C 159 w1 [rV a0]) (fun w2 =>
   some (.inl (22, [some (rV a0), none], [], w2))) else none) else none)
  else
  if kd w a0 = 10 then
  bI (C 165 w [rV a0, iV 3]) (fun x4 w3 =>
  if x4 = 0 ∨ x4 = 1 then some (.inr (some (iV x4), w3)) else none) else none else none := by
  rfl
set_option maxRecDepth 100000 in
theorem eX12_readLetters_22 (C : sC) (w : sW) (a0 : Int) : sg C mX12_readLetters 2000 22 [some (rV a0), none] [] w =
  if kd w a0 = 10 then
  if (gv w a0 7) = 2 then
   (if kd w a0 = 10 then
   bI (C 173 w [rV a0, iV 104]) (fun x2 w1 =>
   if x2 = 0 then
    (if kd w1 a0 = 10 then
    bI (C 165 w1 [rV a0, iV 2]) (fun x4 w3 =>
    if x4 = 0 ∨ x4 = 1 then some (.inr (some (iV x4), w3)) else none) else none)
   else
   if kd w1 a0 = 10 then
   if kd w1 (gv w1 a0 15) = 20 ∧ 0 ≤ (6 : Int) ∧ (6 : Int) < ln w1 (gv w1 a0 15) then
   if kd w1 a0 = 10 then
   if kd w1 a0 = 10 then
   if 200 < (w32 ((w32 ((gv w1 (gv w1 a0 15) 6) + (gv w1 a0 5))) - (gv w1 a0 6))) then
    (if kd w1 a0 = 10 then
    bI (C 165 w1 [rV a0, iV 4]) (fun x6 w5 =>
    if x6 = 0 ∨ x6 = 1 then some (.inr (some (iV x6), w5)) else none) else none)
   else
   if kd w1 a0 = 10 then
   some (.inl (79, [some (rV a0), some (iV (gv w1 a0 6))], [], w1)) else none else none else none else none else none) else none)
  else
  some (.inr (some (iV 1), w)) else none := by
  rfl
set_option maxRecDepth 100000 in
theorem eX12_readLetters_79 (C : sC) (w : sW) (a0 a1 : Int) : sg C mX12_readLetters 2000 79 [some (rV a0), some (iV a1)] [] w =
  if kd w a0 = 10 then
  if a1 < (gv w a0 5) then
   (if kd w a0 = 10 then
   if kd w a0 = 10 then
   if kd w (gv w a0 15) = 20 ∧ 0 ≤ (6 : Int) ∧ (6 : Int) < ln w (gv w a0 15) then
   if kd w a0 = 10 then
   if kd w (gv w a0 1) = 20 ∧ 0 ≤ a1 ∧ a1 < ln w (gv w a0 1) then
   if (kd w (gv w a0 15) = 20 ∧ 32 ≤ (gv w a0 15)) ∧ 0 ≤ (w32 (7 + (gv w (gv w a0 15) 6))) ∧ (w32 (7 + (gv w (gv w a0 15) 6))) < ln w (gv w a0 15) then
   wl (sv w (gv w a0 15) (w32 (7 + (gv w (gv w a0 15) 6))) (w32 ((gv w (gv w a0 1) a1) - 97))) (fun w1 =>
   if kd w1 a0 = 10 then
   if kd w1 (gv w1 a0 15) = 20 ∧ 0 ≤ (6 : Int) ∧ (6 : Int) < ln w1 (gv w1 a0 15) then
   if (kd w1 (gv w1 a0 15) = 20 ∧ 32 ≤ (gv w1 a0 15)) ∧ 0 ≤ (6 : Int) ∧ (6 : Int) < ln w1 (gv w1 a0 15) then
   wl (sv w1 (gv w1 a0 15) 6 (w32 ((gv w1 (gv w1 a0 15) 6) + 1))) (fun w2 =>
   some (.inl (79, [some (rV a0), some (iV (w32 (a1 + 1)))], [], w2))) else none else none else none) else none else none else none else none else none else none)
  else
  if kd w a0 = 10 then
  bN (C 159 w [rV a0]) (fun w3 =>
  some (.inl (22, [some (rV a0), none], [], w3))) else none else none := by
  rfl
set_option maxRecDepth 100000 in
theorem eX12_readLine_0 (C : sC) (w : sW) (a0 a1 : Int) : sg C mX12_readLine 2000 0 [some (rV a0), some (iV a1)] [] w =
  if kd w a0 = 10 then
  bI (C 162 w [rV a0, iV 0]) (fun x2 w1 =>
  if x2 = 0 then
   (if kd w1 a0 = 10 then
   bI (C 162 w1 [rV a0, iV 1]) (fun x4 w3 =>
   if x4 = 0 then
    (if kd w3 a0 = 10 then
    bI (C 162 w3 [rV a0, iV 2]) (fun x6 w5 =>
    if x6 = 0 then
     (if kd w5 a0 = 10 then
     bI (C 165 w5 [rV a0, iV 1]) (fun x8 w7 =>
     if x8 = 0 ∨ x8 = 1 then some (.inr (some (iV x8), w7)) else none) else none)
    else
    if kd w5 a0 = 10 then
    bI (C 176 w5 [rV a0]) (fun x10 w9 =>
    if x10 = 0 ∨ x10 = 1 then some (.inr (some (iV x10), w9)) else none) else none) else none)
   else
   if kd w3 a0 = 10 then
   bI (C 175 w3 [rV a0]) (fun x12 w11 =>
   if x12 = 0 ∨ x12 = 1 then some (.inr (some (iV x12), w11)) else none) else none) else none)
  else
  if kd w1 a0 = 10 then
  bI (C 172 w1 [rV a0, iV a1]) (fun x14 w13 =>
  if x14 = 0 ∨ x14 = 1 then some (.inr (some (iV x14), w13)) else none) else none) else none := by
  rfl
set_option maxRecDepth 100000 in
theorem eX12_room_0 (C : sC) (w : sW) (a0 : Int) : sg C mX12_room 2000 0 [some (rV a0), none, none] [] w =
  if kd w a0 = 10 then
  bN (C 168 w [rV a0, iV 900]) (fun w1 =>
  some (.inl (9, [some (rV a0), some (iV 0), none], [], w1))) else none := by
  rfl
set_option maxRecDepth 100000 in
theorem eX12_room_9 (C : sC) (w : sW) (a0 a1 : Int) : sg C mX12_room 2000 9 [some (rV a0), some (iV a1), none] [] w =
  if a1 < 2607 then
   (if kd w a0 = 10 then
   if (kd w (gv w a0 15) = 20 ∧ 32 ≤ (gv w a0 15)) ∧ 0 ≤ a1 ∧ a1 < ln w (gv w a0 15) then
   wl (sv w (gv w a0 15) a1 0) (fun w1 =>
   some (.inl (9, [some (rV a0), some (iV (w32 (a1 + 1))), none], [], w1))) else none else none)
  else
  if kd w a0 = 10 then
  if (kd w (gv w a0 15) = 20 ∧ 32 ≤ (gv w a0 15)) ∧ 0 ≤ (1 : Int) ∧ (1 : Int) < ln w (gv w a0 15) then
  wl (sv w (gv w a0 15) 1 8) (fun w2 =>
  if kd w2 a0 = 10 ∧ ((0 : Int) = 0 ∨ (0 : Int) = 1) then
  wl (sv w2 a0 25 0) (fun w3 =>
  some (.inl (44, [some (rV a0), some (iV 0), none], [], w3))) else none) else none else none := by
  rfl
set_option maxRecDepth 100000 in
theorem eX12_room_44 (C : sC) (w : sW) (a0 a1 : Int) : sg C mX12_room 2000 44 [some (rV a0), some (iV a1), none] [] w =
  if kd w a0 = 10 then
  if (gv w a0 7) = 0 then
   (some (.inl (81, [some (rV a0), some (iV a1), some (iV 0)], [], w)))
  else
  if kd w a0 = 10 then
  bI (C 177 w [rV a0, iV a1]) (fun x2 w1 =>
  if x2 = 0 then
   (if kd w1 a0 = 10 then
   some (.inr (some (iV (w32 ((-1) - (gv w1 a0 11)))), w1)) else none)
  else
  if kd w1 a0 = 10 then
  bI (C 167 w1 [rV a0]) (fun x4 w3 =>
  if x4 = 0 then
   (if kd w3 a0 = 10 then
   some (.inr (some (iV (w32 ((-1) - (gv w3 a0 11)))), w3)) else none)
  else
  some (.inl (44, [some (rV a0), some (iV (w32 (a1 + 1))), none], [], w3))) else none) else none else none := by
  rfl
set_option maxRecDepth 100000 in
theorem eX12_room_81 (C : sC) (w : sW) (a0 a1 a2 : Int) : sg C mX12_room 2000 81 [some (rV a0), some (iV a1), some (iV a2)] [] w =
  if a2 < 2607 then
   (if kd w a0 = 10 then
   if kd w a0 = 10 then
   if kd w (gv w a0 15) = 20 ∧ 0 ≤ a2 ∧ a2 < ln w (gv w a0 15) then
   if (kd w (gv w a0 14) = 20 ∧ 32 ≤ (gv w a0 14)) ∧ 0 ≤ a2 ∧ a2 < ln w (gv w a0 14) then
   wl (sv w (gv w a0 14) a2 (gv w (gv w a0 15) a2)) (fun w1 =>
   some (.inl (81, [some (rV a0), some (iV a1), some (iV (w32 (a2 + 1)))], [], w1))) else none else none else none else none)
  else
  some (.inl (108, [some (rV a0), some (iV a1), some (iV 0)], [], w)) := by
  rfl
set_option maxRecDepth 100000 in
theorem eX12_room_108 (C : sC) (w : sW) (a0 a1 a2 : Int) : sg C mX12_room 2000 108 [some (rV a0), some (iV a1), some (iV a2)] [] w =
  if a2 < 4 then
   (if kd w a0 = 10 then
   if kd w a0 = 10 then
   if kd w (gv w a0 21) = 22 ∧ 0 ≤ a2 ∧ a2 < ln w (gv w a0 21) then
   if kd w (gv w a0 20) = 22 ∧ 0 ≤ a2 ∧ a2 < ln w (gv w a0 20) then
   wl (sv w (gv w a0 20) a2 (gv w (gv w a0 21) a2)) (fun w1 =>
   some (.inl (108, [some (rV a0), some (iV a1), some (iV (w32 (a2 + 1)))], [], w1))) else none else none else none else none)
  else
  if kd w a0 = 10 then
  bN (C 170 w [rV a0]) (fun w2 =>
  if kd w2 a0 = 10 then
  wl (sv w2 a0 24 0) (fun w3 =>
  some (.inr (some (iV a1), w3))) else none) else none := by
  rfl
set_option maxRecDepth 100000 in
theorem eX12_fault_0 (C : sC) (w : sW) (a0 : Int) : sg C mX12_fault 2000 0 [some (rV a0)] [] w =
  if kd w a0 = 10 then
  wl (sv w a0 0 0) (fun w1 =>
  if kd w1 a0 = 10 then
  some (.inr (some (iV (gv w1 a0 10)), w1)) else none) else none := by
  rfl
set_option maxRecDepth 100000 in
theorem eX12_sizeOf_0 (C : sC) (w : sW) (a0 a1 : Int) : sg C mX12_sizeOf 2000 0 [some (rV a0), some (iV a1)] [] w =
  if kd w a0 = 10 then
  if kd w (gv w a0 14) = 20 ∧ 0 ≤ (w32 (2607 + a1)) ∧ (w32 (2607 + a1)) < ln w (gv w a0 14) then
  some (.inr (some (iV (gv w (gv w a0 14) (w32 (2607 + a1)))), w)) else none else none := by
  rfl
set_option maxRecDepth 100000 in
theorem eX12_bitOf_0 (C : sC) (w : sW) (a0 a1 a2 : Int) : sg C mX12_bitOf 2000 0 [some (rV a0), some (iV a1), some (iV a2)] [] w =
  if kd w a0 = 10 then
  if kd w (gv w a0 14) = 20 ∧ 0 ≤ (w32 ((w32 (3420 + (w32 (600 * a1)))) + a2)) ∧ (w32 ((w32 (3420 + (w32 (600 * a1)))) + a2)) < ln w (gv w a0 14) then
  some (.inr (some (iV (gv w (gv w a0 14) (w32 ((w32 (3420 + (w32 (600 * a1)))) + a2)))), w)) else none else none := by
  rfl
set_option maxRecDepth 100000 in
theorem eX12_leafAt_0 (C : sC) (w : sW) (a0 a1 a2 : Int) : sg C mX12_leafAt 2000 0 [some (rV a0), some (iV a1), some (iV a2)] [] w =
  some (.inr (some (iV (w32 ((w32 (2816 + (w32 (151 * a1)))) + a2))), w)) := by
  rfl
set_option maxRecDepth 100000 in
theorem eX12_leafOf_0 (C : sC) (w : sW) (a0 a1 a2 : Int) : sg C mX12_leafOf 2000 0 [some (rV a0), some (iV a1), some (iV a2), none, none] [] w =
  if kd w a0 = 10 then
  if kd w a0 = 10 then
  bI (C 182 w [rV a0, iV a1, iV 0]) (fun x2 w1 =>
  if kd w1 (gv w a0 14) = 20 ∧ 0 ≤ x2 ∧ x2 < ln w1 (gv w a0 14) then
  some (.inl (15, [some (rV a0), some (iV a1), some (iV a2), some (iV 0), some (iV (gv w1 (gv w a0 14) x2))], [], w1)) else none) else none else none := by
  rfl
set_option maxRecDepth 100000 in
theorem eX12_leafOf_15 (C : sC) (w : sW) (a0 a1 a2 a3 a4 : Int) : sg C mX12_leafOf 2000 15 [some (rV a0), some (iV a1), some (iV a2), some (iV a3), some (iV a4)] [] w =
  if a2 < a4 then
   (some (.inr (some (iV a3), w)))
  else
  if kd w a0 = 10 then
  if kd w a0 = 10 then
  bI (C 182 w [rV a0, iV a1, iV (w32 (a3 + 1))]) (fun x2 w1 =>
  if kd w1 (gv w a0 14) = 20 ∧ 0 ≤ x2 ∧ x2 < ln w1 (gv w a0 14) then
  some (.inl (15, [some (rV a0), some (iV a1), some (iV a2), some (iV (w32 (a3 + 1))), some (iV (w32 (a4 + (gv w1 (gv w a0 14) x2))))], [], w1)) else none) else none else none := by
  rfl
set_option maxRecDepth 100000 in
theorem eX12_splitLeaf_0 (C : sC) (w : sW) (a0 a1 a2 : Int) : sg C mX12_splitLeaf 2000 0 [some (rV a0), some (iV a1), some (iV a2), none, none] [] w =
  if kd w a0 = 10 then
  if kd w a0 = 10 then
  bI (C 182 w [rV a0, iV a1, iV a2]) (fun x2 w1 =>
  if kd w1 (gv w a0 14) = 20 ∧ 0 ≤ x2 ∧ x2 < ln w1 (gv w a0 14) then
  if kd w1 a0 = 10 then
  if kd w1 (gv w1 a0 14) = 20 ∧ 0 ≤ (w32 (2611 + a1)) ∧ (w32 (2611 + a1)) < ln w1 (gv w1 a0 14) then
  some (.inl (24, [some (rV a0), some (iV a1), some (iV a2), some (iV (gv w1 (gv w a0 14) x2)), some (iV (gv w1 (gv w1 a0 14) (w32 (2611 + a1))))], [], w1)) else none else none else none) else none else none := by
  rfl
set_option maxRecDepth 100000 in
theorem eX12_splitLeaf_24 (C : sC) (w : sW) (a0 a1 a2 a3 a4 : Int) : sg C mX12_splitLeaf 2000 24 [some (rV a0), some (iV a1), some (iV a2), some (iV a3), some (iV a4)] [] w =
  if (w32 (a2 + 1)) < a4 then
   (if kd w a0 = 10 then
   if kd w a0 = 10 then
   bI (C 182 w [rV a0, iV a1, iV a4]) (fun x2 w1 =>
   if kd w1 a0 = 10 then
   if kd w1 a0 = 10 then
   bI (C 182 w1 [rV a0, iV a1, iV (w32 (a4 - 1))]) (fun x4 w3 =>
   if kd w3 (gv w1 a0 14) = 20 ∧ 0 ≤ x4 ∧ x4 < ln w3 (gv w1 a0 14) then
   if (kd w3 (gv w a0 14) = 20 ∧ 32 ≤ (gv w a0 14)) ∧ 0 ≤ x2 ∧ x2 < ln w3 (gv w a0 14) then
   wl (sv w3 (gv w a0 14) x2 (gv w3 (gv w1 a0 14) x4)) (fun w5 =>
   some (.inl (24, [some (rV a0), some (iV a1), some (iV a2), some (iV a3), some (iV (w32 (a4 + (-1))))], [], w5))) else none else none) else none else none) else none else none)
  else
  if kd w a0 = 10 then
  if kd w a0 = 10 then
  bI (C 182 w [rV a0, iV a1, iV a2]) (fun x7 w6 =>
  if (2 : Int) = 0 then none else
  if (kd w6 (gv w a0 14) = 20 ∧ 32 ≤ (gv w a0 14)) ∧ 0 ≤ x7 ∧ x7 < ln w6 (gv w a0 14) then
  wl (sv w6 (gv w a0 14) x7 (w32 (Int.tdiv (w32 (a3 + 1)) 2))) (fun w8 =>
  if kd w8 a0 = 10 then
  if kd w8 a0 = 10 then
  bI (C 182 w8 [rV a0, iV a1, iV (w32 (a2 + 1))]) (fun x10 w9 =>
  if (2 : Int) = 0 then none else
  if (kd w9 (gv w8 a0 14) = 20 ∧ 32 ≤ (gv w8 a0 14)) ∧ 0 ≤ x10 ∧ x10 < ln w9 (gv w8 a0 14) then
  wl (sv w9 (gv w8 a0 14) x10 (w32 (Int.tdiv a3 2))) (fun w11 =>
  if kd w11 a0 = 10 then
  if kd w11 (gv w11 a0 14) = 20 ∧ 0 ≤ (w32 (2611 + a1)) ∧ (w32 (2611 + a1)) < ln w11 (gv w11 a0 14) then
  if (kd w11 (gv w11 a0 14) = 20 ∧ 32 ≤ (gv w11 a0 14)) ∧ 0 ≤ (w32 (2611 + a1)) ∧ (w32 (2611 + a1)) < ln w11 (gv w11 a0 14) then
  wl (sv w11 (gv w11 a0 14) (w32 (2611 + a1)) (w32 ((gv w11 (gv w11 a0 14) (w32 (2611 + a1))) + 1))) (fun w12 =>
  some (.inr (none, w12))) else none else none else none) else none) else none else none) else none) else none else none := by
  rfl
set_option maxRecDepth 100000 in
theorem eX12_putBit_0 (C : sC) (w : sW) (a0 a1 a2 a3 : Int) : sg C mX12_putBit 2000 0 [some (rV a0), some (iV a1), some (iV a2), some (iV a3), none, none] [] w =
  if kd w a0 = 10 then
  bI (C 180 w [rV a0, iV a1]) (fun x2 w1 =>
  some (.inl (18, [some (rV a0), some (iV a1), some (iV a2), some (iV a3), some (iV (w32 (3420 + (w32 (600 * a1))))), some (iV x2)], [], w1))) else none := by
  rfl
set_option maxRecDepth 100000 in
theorem eX12_putBit_18 (C : sC) (w : sW) (a0 a1 a2 a3 a4 a5 : Int) : sg C mX12_putBit 2000 18 [some (rV a0), some (iV a1), some (iV a2), some (iV a3), some (iV a4), some (iV a5)] [] w =
  if a2 < a5 then
   (if kd w a0 = 10 then
   if kd w a0 = 10 then
   if kd w (gv w a0 14) = 20 ∧ 0 ≤ (w32 ((w32 (a4 + a5)) - 1)) ∧ (w32 ((w32 (a4 + a5)) - 1)) < ln w (gv w a0 14) then
   if (kd w (gv w a0 14) = 20 ∧ 32 ≤ (gv w a0 14)) ∧ 0 ≤ (w32 (a4 + a5)) ∧ (w32 (a4 + a5)) < ln w (gv w a0 14) then
   wl (sv w (gv w a0 14) (w32 (a4 + a5)) (gv w (gv w a0 14) (w32 ((w32 (a4 + a5)) - 1)))) (fun w1 =>
   some (.inl (18, [some (rV a0), some (iV a1), some (iV a2), some (iV a3), some (iV a4), some (iV (w32 (a5 + (-1))))], [], w1))) else none else none else none else none)
  else
  if kd w a0 = 10 then
  if (kd w (gv w a0 14) = 20 ∧ 32 ≤ (gv w a0 14)) ∧ 0 ≤ (w32 (a4 + a2)) ∧ (w32 (a4 + a2)) < ln w (gv w a0 14) then
  wl (sv w (gv w a0 14) (w32 (a4 + a2)) a3) (fun w2 =>
  if kd w2 a0 = 10 then
  if kd w2 (gv w2 a0 14) = 20 ∧ 0 ≤ (w32 (2611 + a1)) ∧ (w32 (2611 + a1)) < ln w2 (gv w2 a0 14) then
  if (gv w2 (gv w2 a0 14) (w32 (2611 + a1))) = 0 then
   (if kd w2 a0 = 10 then
   if (kd w2 (gv w2 a0 14) = 20 ∧ 32 ≤ (gv w2 a0 14)) ∧ 0 ≤ (w32 (2611 + a1)) ∧ (w32 (2611 + a1)) < ln w2 (gv w2 a0 14) then
   wl (sv w2 (gv w2 a0 14) (w32 (2611 + a1)) 1) (fun w3 =>
   if a2 = 0 then
    (some (.inl (102, [some (rV a0), some (iV a1), none, none, none, none], [iV 0], w3)))
   else
   if kd w3 a0 = 10 then
   bI (C 183 w3 [rV a0, iV a1, iV (w32 (a2 - 1))]) (fun x5 w4 =>
   some (.inl (102, [some (rV a0), some (iV a1), none, none, none, none], [iV x5], w4))) else none) else none else none)
  else
  if a2 = 0 then
   (some (.inl (102, [some (rV a0), some (iV a1), none, none, none, none], [iV 0], w2)))
  else
  if kd w2 a0 = 10 then
  bI (C 183 w2 [rV a0, iV a1, iV (w32 (a2 - 1))]) (fun x7 w6 =>
  some (.inl (102, [some (rV a0), some (iV a1), none, none, none, none], [iV x7], w6))) else none else none else none) else none else none := by
  rfl
set_option maxRecDepth 100000 in
theorem eX12_putBit_102 (C : sC) (w : sW) (a0 a1 b0 : Int) : sg C mX12_putBit 2000 102 [some (rV a0), some (iV a1), none, none, none, none] [iV b0] w =
  if kd w a0 = 10 then
  if kd w (gv w a0 14) = 20 ∧ 0 ≤ (w32 (2607 + a1)) ∧ (w32 (2607 + a1)) < ln w (gv w a0 14) then
  if (kd w (gv w a0 14) = 20 ∧ 32 ≤ (gv w a0 14)) ∧ 0 ≤ (w32 (2607 + a1)) ∧ (w32 (2607 + a1)) < ln w (gv w a0 14) then
  wl (sv w (gv w a0 14) (w32 (2607 + a1)) (w32 ((gv w (gv w a0 14) (w32 (2607 + a1))) + 1))) (fun w1 =>
  if kd w1 a0 = 10 then
  if kd w1 a0 = 10 then
  bI (C 182 w1 [rV a0, iV a1, iV b0]) (fun x3 w2 =>
  if kd w2 (gv w1 a0 14) = 20 ∧ 0 ≤ x3 ∧ x3 < ln w2 (gv w1 a0 14) then
  if (kd w2 (gv w1 a0 14) = 20 ∧ 32 ≤ (gv w1 a0 14)) ∧ 0 ≤ x3 ∧ x3 < ln w2 (gv w1 a0 14) then
  wl (sv w2 (gv w1 a0 14) x3 (w32 ((gv w2 (gv w1 a0 14) x3) + 1))) (fun w4 =>
  if kd w4 a0 = 10 then
  if kd w4 a0 = 10 then
  bI (C 182 w4 [rV a0, iV a1, iV b0]) (fun x6 w5 =>
  if kd w5 (gv w4 a0 14) = 20 ∧ 0 ≤ x6 ∧ x6 < ln w5 (gv w4 a0 14) then
  if kd w5 a0 = 10 then
  if kd w5 (gv w5 a0 14) = 20 ∧ 0 ≤ (1 : Int) ∧ (1 : Int) < ln w5 (gv w5 a0 14) then
  if (w32 (2 * (gv w5 (gv w5 a0 14) 1))) < (gv w5 (gv w4 a0 14) x6) then
   (if kd w5 a0 = 10 then
   bN (C 184 w5 [rV a0, iV a1, iV b0]) (fun w7 =>
   some (.inr (none, w7))) else none)
  else
  some (.inr (none, w5)) else none else none else none) else none else none) else none else none) else none else none) else none else none else none := by
  rfl
set_option maxRecDepth 100000 in
theorem eX12_joinLeaves_0 (C : sC) (w : sW) (a0 a1 a2 : Int) : sg C mX12_joinLeaves 2000 0 [some (rV a0), some (iV a1), some (iV a2), none] [] w =
  if kd w a0 = 10 then
  if kd w a0 = 10 then
  bI (C 182 w [rV a0, iV a1, iV a2]) (fun x2 w1 =>
  if kd w1 (gv w a0 14) = 20 ∧ 0 ≤ x2 ∧ x2 < ln w1 (gv w a0 14) then
  if kd w1 a0 = 10 then
  if kd w1 a0 = 10 then
  bI (C 182 w1 [rV a0, iV a1, iV (w32 (a2 + 1))]) (fun x4 w3 =>
  if kd w3 (gv w1 a0 14) = 20 ∧ 0 ≤ x4 ∧ x4 < ln w3 (gv w1 a0 14) then
  if (kd w3 (gv w a0 14) = 20 ∧ 32 ≤ (gv w a0 14)) ∧ 0 ≤ x2 ∧ x2 < ln w3 (gv w a0 14) then
  wl (sv w3 (gv w a0 14) x2 (w32 ((gv w1 (gv w a0 14) x2) + (gv w3 (gv w1 a0 14) x4)))) (fun w5 =>
  if kd w5 a0 = 10 then
  if kd w5 (gv w5 a0 14) = 20 ∧ 0 ≤ (w32 (2611 + a1)) ∧ (w32 (2611 + a1)) < ln w5 (gv w5 a0 14) then
  if (kd w5 (gv w5 a0 14) = 20 ∧ 32 ≤ (gv w5 a0 14)) ∧ 0 ≤ (w32 (2611 + a1)) ∧ (w32 (2611 + a1)) < ln w5 (gv w5 a0 14) then
  wl (sv w5 (gv w5 a0 14) (w32 (2611 + a1)) (w32 ((gv w5 (gv w5 a0 14) (w32 (2611 + a1))) - 1))) (fun w6 =>
  some (.inl (45, [some (rV a0), some (iV a1), some (iV a2), some (iV (w32 (a2 + 1)))], [], w6))) else none else none else none) else none else none) else none else none else none) else none else none := by
  rfl
set_option maxRecDepth 100000 in
theorem eX12_joinLeaves_45 (C : sC) (w : sW) (a0 a1 a2 a3 : Int) : sg C mX12_joinLeaves 2000 45 [some (rV a0), some (iV a1), some (iV a2), some (iV a3)] [] w =
  if kd w a0 = 10 then
  if kd w (gv w a0 14) = 20 ∧ 0 ≤ (w32 (2611 + a1)) ∧ (w32 (2611 + a1)) < ln w (gv w a0 14) then
  if a3 < (gv w (gv w a0 14) (w32 (2611 + a1))) then
   (if kd w a0 = 10 then
   if kd w a0 = 10 then
   bI (C 182 w [rV a0, iV a1, iV a3]) (fun x2 w1 =>
   if kd w1 a0 = 10 then
   if kd w1 a0 = 10 then
   bI (C 182 w1 [rV a0, iV a1, iV (w32 (a3 + 1))]) (fun x4 w3 =>
   if kd w3 (gv w1 a0 14) = 20 ∧ 0 ≤ x4 ∧ x4 < ln w3 (gv w1 a0 14) then
   if (kd w3 (gv w a0 14) = 20 ∧ 32 ≤ (gv w a0 14)) ∧ 0 ≤ x2 ∧ x2 < ln w3 (gv w a0 14) then
   wl (sv w3 (gv w a0 14) x2 (gv w3 (gv w1 a0 14) x4)) (fun w5 =>
   some (.inl (45, [some (rV a0), some (iV a1), some (iV a2), some (iV (w32 (a3 + 1)))], [], w5))) else none else none) else none else none) else none else none)
  else
  if kd w a0 = 10 then
  if kd w a0 = 10 then
  if kd w (gv w a0 14) = 20 ∧ 0 ≤ (w32 (2611 + a1)) ∧ (w32 (2611 + a1)) < ln w (gv w a0 14) then
  if kd w a0 = 10 then
  bI (C 182 w [rV a0, iV a1, iV (gv w (gv w a0 14) (w32 (2611 + a1)))]) (fun x7 w6 =>
  if (kd w6 (gv w a0 14) = 20 ∧ 32 ≤ (gv w a0 14)) ∧ 0 ≤ x7 ∧ x7 < ln w6 (gv w a0 14) then
  wl (sv w6 (gv w a0 14) x7 0) (fun w8 =>
  if kd w8 a0 = 10 then
  if kd w8 a0 = 10 then
  bI (C 182 w8 [rV a0, iV a1, iV a2]) (fun x10 w9 =>
  if kd w9 (gv w8 a0 14) = 20 ∧ 0 ≤ x10 ∧ x10 < ln w9 (gv w8 a0 14) then
  if kd w9 a0 = 10 then
  if kd w9 (gv w9 a0 14) = 20 ∧ 0 ≤ (1 : Int) ∧ (1 : Int) < ln w9 (gv w9 a0 14) then
  if (w32 (2 * (gv w9 (gv w9 a0 14) 1))) < (gv w9 (gv w8 a0 14) x10) then
   (if kd w9 a0 = 10 then
   bN (C 184 w9 [rV a0, iV a1, iV a2]) (fun w11 =>
   some (.inr (none, w11))) else none)
  else
  some (.inr (none, w9)) else none else none else none) else none else none) else none) else none else none else none else none else none else none := by
  rfl
set_option maxRecDepth 100000 in
theorem eX12_takeBit_0 (C : sC) (w : sW) (a0 a1 a2 : Int) : sg C mX12_takeBit 2000 0 [some (rV a0), some (iV a1), some (iV a2), none, none, none] [] w =
  if kd w a0 = 10 then
  bI (C 183 w [rV a0, iV a1, iV a2]) (fun x2 w1 =>
  if kd w1 a0 = 10 then
  if kd w1 (gv w1 a0 14) = 20 ∧ 0 ≤ (w32 (2607 + a1)) ∧ (w32 (2607 + a1)) < ln w1 (gv w1 a0 14) then
  if (kd w1 (gv w1 a0 14) = 20 ∧ 32 ≤ (gv w1 a0 14)) ∧ 0 ≤ (w32 (2607 + a1)) ∧ (w32 (2607 + a1)) < ln w1 (gv w1 a0 14) then
  wl (sv w1 (gv w1 a0 14) (w32 (2607 + a1)) (w32 ((gv w1 (gv w1 a0 14) (w32 (2607 + a1))) - 1))) (fun w3 =>
  some (.inl (35, [some (rV a0), some (iV a1), none, some (iV (w32 (3420 + (w32 (600 * a1))))), some (iV x2), some (iV a2)], [], w3))) else none else none else none) else none := by
  rfl
set_option maxRecDepth 100000 in
theorem eX12_takeBit_35 (C : sC) (w : sW) (a0 a1 a3 a4 a5 : Int) : sg C mX12_takeBit 2000 35 [some (rV a0), some (iV a1), none, some (iV a3), some (iV a4), some (iV a5)] [] w =
  if kd w a0 = 10 then
  bI (C 180 w [rV a0, iV a1]) (fun x2 w1 =>
  if a5 < x2 then
   (if kd w1 a0 = 10 then
   if kd w1 a0 = 10 then
   if kd w1 (gv w1 a0 14) = 20 ∧ 0 ≤ (w32 ((w32 (a3 + a5)) + 1)) ∧ (w32 ((w32 (a3 + a5)) + 1)) < ln w1 (gv w1 a0 14) then
   if (kd w1 (gv w1 a0 14) = 20 ∧ 32 ≤ (gv w1 a0 14)) ∧ 0 ≤ (w32 (a3 + a5)) ∧ (w32 (a3 + a5)) < ln w1 (gv w1 a0 14) then
   wl (sv w1 (gv w1 a0 14) (w32 (a3 + a5)) (gv w1 (gv w1 a0 14) (w32 ((w32 (a3 + a5)) + 1)))) (fun w3 =>
   some (.inl (35, [some (rV a0), some (iV a1), none, some (iV a3), some (iV a4), some (iV (w32 (a5 + 1)))], [], w3))) else none else none else none else none)
  else
  if kd w1 a0 = 10 then
  if kd w1 a0 = 10 then
  bI (C 180 w1 [rV a0, iV a1]) (fun x5 w4 =>
  if (kd w4 (gv w1 a0 14) = 20 ∧ 32 ≤ (gv w1 a0 14)) ∧ 0 ≤ (w32 (a3 + x5)) ∧ (w32 (a3 + x5)) < ln w4 (gv w1 a0 14) then
  wl (sv w4 (gv w1 a0 14) (w32 (a3 + x5)) 0) (fun w6 =>
  if kd w6 a0 = 10 then
  if kd w6 a0 = 10 then
  bI (C 182 w6 [rV a0, iV a1, iV a4]) (fun x8 w7 =>
  if kd w7 (gv w6 a0 14) = 20 ∧ 0 ≤ x8 ∧ x8 < ln w7 (gv w6 a0 14) then
  if (kd w7 (gv w6 a0 14) = 20 ∧ 32 ≤ (gv w6 a0 14)) ∧ 0 ≤ x8 ∧ x8 < ln w7 (gv w6 a0 14) then
  wl (sv w7 (gv w6 a0 14) x8 (w32 ((gv w7 (gv w6 a0 14) x8) - 1))) (fun w9 =>
  if kd w9 a0 = 10 then
  if kd w9 (gv w9 a0 14) = 20 ∧ 0 ≤ (w32 (2611 + a1)) ∧ (w32 (2611 + a1)) < ln w9 (gv w9 a0 14) then
  if (gv w9 (gv w9 a0 14) (w32 (2611 + a1))) = 1 then
   (if kd w9 a0 = 10 then
   if kd w9 a0 = 10 then
   bI (C 182 w9 [rV a0, iV a1, iV a4]) (fun x11 w10 =>
   if kd w10 (gv w9 a0 14) = 20 ∧ 0 ≤ x11 ∧ x11 < ln w10 (gv w9 a0 14) then
   if (gv w10 (gv w9 a0 14) x11) = 0 then
    (if kd w10 a0 = 10 then
    if (kd w10 (gv w10 a0 14) = 20 ∧ 32 ≤ (gv w10 a0 14)) ∧ 0 ≤ (w32 (2611 + a1)) ∧ (w32 (2611 + a1)) < ln w10 (gv w10 a0 14) then
    wl (sv w10 (gv w10 a0 14) (w32 (2611 + a1)) 0) (fun w12 =>
    some (.inr (none, w12))) else none else none)
   else
   some (.inr (none, w10)) else none) else none else none)
  else
  if kd w9 a0 = 10 then
  if kd w9 a0 = 10 then
  bI (C 182 w9 [rV a0, iV a1, iV a4]) (fun x14 w13 =>
  if kd w13 (gv w9 a0 14) = 20 ∧ 0 ≤ x14 ∧ x14 < ln w13 (gv w9 a0 14) then
  if kd w13 a0 = 10 then
  if kd w13 (gv w13 a0 14) = 20 ∧ 0 ≤ (1 : Int) ∧ (1 : Int) < ln w13 (gv w13 a0 14) then
  if (gv w13 (gv w9 a0 14) x14) < (gv w13 (gv w13 a0 14) 1) then
   (if kd w13 a0 = 10 then
   if kd w13 (gv w13 a0 14) = 20 ∧ 0 ≤ (w32 (2611 + a1)) ∧ (w32 (2611 + a1)) < ln w13 (gv w13 a0 14) then
   if a4 < (w32 ((gv w13 (gv w13 a0 14) (w32 (2611 + a1))) - 1)) then
    (if kd w13 a0 = 10 then
    bN (C 186 w13 [rV a0, iV a1, iV a4]) (fun w15 =>
    some (.inr (none, w15))) else none)
   else
   if kd w13 a0 = 10 then
   bN (C 186 w13 [rV a0, iV a1, iV (w32 (a4 - 1))]) (fun w16 =>
   some (.inr (none, w16))) else none else none else none)
  else
  some (.inr (none, w13)) else none else none else none) else none else none else none else none) else none else none) else none else none) else none) else none else none) else none := by
  rfl
set_option maxRecDepth 100000 in
theorem eX12_isRow_0 (C : sC) (w : sW) (a0 a1 : Int) : sg C mX12_isRow 2000 0 [some (rV a0), some (iV a1)] [] w =
  if kd w a0 = 10 then
  if kd w (gv w a0 14) = 20 ∧ 0 ≤ (0 : Int) ∧ (0 : Int) < ln w (gv w a0 14) then
  bI (C 155 w [iV a1, iV 0, iV (w32 ((gv w (gv w a0 14) 0) - 1))]) (fun x2 w1 =>
  if x2 = 0 ∨ x2 = 1 then some (.inr (some (iV x2), w1)) else none) else none else none := by
  rfl
set_option maxRecDepth 100000 in
theorem eX12_isBit_0 (C : sC) (w : sW) (a0 a1 : Int) : sg C mX12_isBit 2000 0 [some (rV a0), some (iV a1)] [] w =
  bI (C 155 w [iV a1, iV 0, iV 1]) (fun x2 w1 =>
  if x2 = 0 ∨ x2 = 1 then some (.inr (some (iV x2), w1)) else none) := by
  rfl
set_option maxRecDepth 100000 in
theorem eX12_isThere_0 (C : sC) (w : sW) (a0 a1 a2 : Int) : sg C mX12_isThere 2000 0 [some (rV a0), some (iV a1), some (iV a2)] [] w =
  if kd w a0 = 10 then
  bI (C 180 w [rV a0, iV a1]) (fun x2 w1 =>
  bI (C 155 w1 [iV a2, iV 0, iV (w32 (x2 - 1))]) (fun x4 w3 =>
  if x4 = 0 ∨ x4 = 1 then some (.inr (some (iV x4), w3)) else none)) else none := by
  rfl
set_option maxRecDepth 100000 in
theorem eX12_onesIn_0 (C : sC) (w : sW) (a0 a1 a2 a3 : Int) : sg C mX12_onesIn 2000 0 [some (rV a0), some (iV a1), some (iV a2), some (iV a3), none, none] [] w =
  some (.inl (6, [some (rV a0), some (iV a1), none, some (iV a3), some (iV 0), some (iV a2)], [], w)) := by
  rfl
set_option maxRecDepth 100000 in
theorem eX12_onesIn_6 (C : sC) (w : sW) (a0 a1 a3 a4 a5 : Int) : sg C mX12_onesIn 2000 6 [some (rV a0), some (iV a1), none, some (iV a3), some (iV a4), some (iV a5)] [] w =
  if a5 < a3 then
   (if kd w a0 = 10 then
   bI (C 181 w [rV a0, iV a1, iV a5]) (fun x2 w1 =>
   some (.inl (6, [some (rV a0), some (iV a1), none, some (iV a3), some (iV (w32 (a4 + x2))), some (iV (w32 (a5 + 1)))], [], w1))) else none)
  else
  some (.inr (some (iV a4), w)) := by
  rfl
set_option maxRecDepth 100000 in
theorem eX12_size_0 (C : sC) (w : sW) (a0 a1 : Int) : sg C mX12_size 2000 0 [some (rV a0), some (iV a1)] [] w =
  if kd w a0 = 10 then
  wl (sv w a0 0 0) (fun w1 =>
  if kd w1 a0 = 10 then
  bI (C 188 w1 [rV a0, iV a1]) (fun x3 w2 =>
  if x3 = 0 then
   (some (.inr (some (iV (-1)), w2)))
  else
  if kd w2 a0 = 10 then
  bI (C 180 w2 [rV a0, iV a1]) (fun x5 w4 =>
  some (.inr (some (iV x5), w4))) else none) else none) else none := by
  rfl
set_option maxRecDepth 100000 in
theorem eX12_bit_0 (C : sC) (w : sW) (a0 a1 a2 : Int) : sg C mX12_bit 2000 0 [some (rV a0), some (iV a1), some (iV a2)] [] w =
  if kd w a0 = 10 then
  wl (sv w a0 0 0) (fun w1 =>
  if kd w1 a0 = 10 then
  bI (C 188 w1 [rV a0, iV a1]) (fun x3 w2 =>
  if x3 = 0 then
   (some (.inr (some (iV (-1)), w2)))
  else
  if kd w2 a0 = 10 then
  bI (C 190 w2 [rV a0, iV a1, iV a2]) (fun x5 w4 =>
  if x5 = 0 then
   (some (.inr (some (iV (-1)), w4)))
  else
  if kd w4 a0 = 10 then
  bI (C 181 w4 [rV a0, iV a1, iV a2]) (fun x7 w6 =>
  some (.inr (some (iV x7), w6))) else none) else none) else none) else none := by
  rfl
set_option maxRecDepth 100000 in
theorem eX12_rank_0 (C : sC) (w : sW) (a0 a1 a2 a3 : Int) : sg C mX12_rank 2000 0 [some (rV a0), some (iV a1), some (iV a2), some (iV a3), none] [] w =
  if kd w a0 = 10 then
  wl (sv w a0 0 0) (fun w1 =>
  if kd w1 a0 = 10 then
  bI (C 188 w1 [rV a0, iV a1]) (fun x3 w2 =>
  if x3 = 0 then
   (some (.inr (some (iV (-1)), w2)))
  else
  if kd w2 a0 = 10 then
  bI (C 189 w2 [rV a0, iV a3]) (fun x5 w4 =>
  if x5 = 0 then
   (some (.inr (some (iV (-1)), w4)))
  else
  if kd w4 a0 = 10 then
  bI (C 180 w4 [rV a0, iV a1]) (fun x7 w6 =>
  bI (C 155 w6 [iV a2, iV 0, iV x7]) (fun x9 w8 =>
  if x9 = 0 then
   (some (.inr (some (iV (-1)), w8)))
  else
  if kd w8 a0 = 10 then
  bI (C 191 w8 [rV a0, iV a1, iV 0, iV a2]) (fun x11 w10 =>
  if a3 = 1 then
   (some (.inr (some (iV x11), w10)))
  else
  some (.inr (some (iV (w32 (a2 - x11))), w10))) else none)) else none) else none) else none) else none := by
  rfl
set_option maxRecDepth 100000 in
theorem eX12_select_0 (C : sC) (w : sW) (a0 a1 a2 a3 : Int) : sg C mX12_select 2000 0 [some (rV a0), some (iV a1), some (iV a2), some (iV a3), none, none] [] w =
  if kd w a0 = 10 then
  wl (sv w a0 0 0) (fun w1 =>
  if kd w1 a0 = 10 then
  bI (C 188 w1 [rV a0, iV a1]) (fun x3 w2 =>
  if x3 = 0 then
   (some (.inr (some (iV (-1)), w2)))
  else
  if kd w2 a0 = 10 then
  bI (C 189 w2 [rV a0, iV a3]) (fun x5 w4 =>
  if x5 = 0 then
   (some (.inr (some (iV (-1)), w4)))
  else
  if a2 < 0 then
   (some (.inr (some (iV (-1)), w4)))
  else
  some (.inl (33, [some (rV a0), some (iV a1), some (iV a2), some (iV a3), some (iV 0), some (iV 0)], [], w4))) else none) else none) else none := by
  rfl
set_option maxRecDepth 100000 in
theorem eX12_select_33 (C : sC) (w : sW) (a0 a1 a2 a3 a4 a5 : Int) : sg C mX12_select 2000 33 [some (rV a0), some (iV a1), some (iV a2), some (iV a3), some (iV a4), some (iV a5)] [] w =
  if kd w a0 = 10 then
  bI (C 180 w [rV a0, iV a1]) (fun x2 w1 =>
  if a5 < x2 then
   (if kd w1 a0 = 10 then
   bI (C 181 w1 [rV a0, iV a1, iV a5]) (fun x4 w3 =>
   if x4 = a3 then
    (if a4 = a2 then
     (some (.inr (some (iV a5), w3)))
    else
    some (.inl (33, [some (rV a0), some (iV a1), some (iV a2), some (iV a3), some (iV (w32 (a4 + 1))), some (iV (w32 (a5 + 1)))], [], w3)))
   else
   some (.inl (33, [some (rV a0), some (iV a1), some (iV a2), some (iV a3), some (iV a4), some (iV (w32 (a5 + 1)))], [], w3))) else none)
  else
  some (.inr (some (iV (-1)), w1))) else none := by
  rfl
set_option maxRecDepth 100000 in
theorem eX12_find_0 (C : sC) (w : sW) (a0 a1 a2 a3 : Int) : sg C mX12_find 2000 0 [some (rV a0), some (iV a1), some (iV a2), some (iV a3), none] [] w =
  if kd w a0 = 10 then
  wl (sv w a0 0 0) (fun w1 =>
  if kd w1 a0 = 10 then
  bI (C 188 w1 [rV a0, iV a1]) (fun x3 w2 =>
  if x3 = 0 then
   (some (.inr (some (iV (-1)), w2)))
  else
  if kd w2 a0 = 10 then
  bI (C 189 w2 [rV a0, iV a3]) (fun x5 w4 =>
  if x5 = 0 then
   (some (.inr (some (iV (-1)), w4)))
  else
  if a2 < 0 then
   (some (.inr (some (iV (-1)), w4)))
  else
  some (.inl (30, [some (rV a0), some (iV a1), none, some (iV a3), some (iV a2)], [], w4))) else none) else none) else none := by
  rfl
set_option maxRecDepth 100000 in
theorem eX12_find_30 (C : sC) (w : sW) (a0 a1 a3 a4 : Int) : sg C mX12_find 2000 30 [some (rV a0), some (iV a1), none, some (iV a3), some (iV a4)] [] w =
  if kd w a0 = 10 then
  bI (C 180 w [rV a0, iV a1]) (fun x2 w1 =>
  if a4 < x2 then
   (if kd w1 a0 = 10 then
   bI (C 181 w1 [rV a0, iV a1, iV a4]) (fun x4 w3 =>
   if x4 = a3 then
    (some (.inr (some (iV a4), w3)))
   else
   some (.inl (30, [some (rV a0), some (iV a1), none, some (iV a3), some (iV (w32 (a4 + 1)))], [], w3))) else none)
  else
  some (.inr (some (iV (-1)), w1))) else none := by
  rfl
set_option maxRecDepth 100000 in
theorem eX12_runsOf_0 (C : sC) (w : sW) (a0 a1 : Int) : sg C mX12_runsOf 2000 0 [some (rV a0), some (iV a1), none, none] [] w =
  some (.inl (4, [some (rV a0), some (iV a1), some (iV 0), some (iV 0)], [], w)) := by
  rfl
set_option maxRecDepth 100000 in
theorem eX12_runsOf_4 (C : sC) (w : sW) (a0 a1 a2 a3 : Int) : sg C mX12_runsOf 2000 4 [some (rV a0), some (iV a1), some (iV a2), some (iV a3)] [] w =
  if kd w a0 = 10 then
  bI (C 180 w [rV a0, iV a1]) (fun x2 w1 =>
  if a3 < x2 then
   (if a3 = 0 then
    (some (.inl (4, [some (rV a0), some (iV a1), some (iV (w32 (a2 + 1))), some (iV (w32 (a3 + 1)))], [], w1)))
   else
   if kd w1 a0 = 10 then
   bI (C 181 w1 [rV a0, iV a1, iV a3]) (fun x4 w3 =>
   if kd w3 a0 = 10 then
   bI (C 181 w3 [rV a0, iV a1, iV (w32 (a3 - 1))]) (fun x6 w5 =>
   if x4 = x6 then
    (some (.inl (4, [some (rV a0), some (iV a1), some (iV a2), some (iV (w32 (a3 + 1)))], [], w5)))
   else
   some (.inl (4, [some (rV a0), some (iV a1), some (iV (w32 (a2 + 1))), some (iV (w32 (a3 + 1)))], [], w5))) else none) else none)
  else
  some (.inr (some (iV a2), w1))) else none := by
  rfl
set_option maxRecDepth 100000 in
theorem eX12_runs_0 (C : sC) (w : sW) (a0 a1 : Int) : sg C mX12_runs 2000 0 [some (rV a0), some (iV a1)] [] w =
  if kd w a0 = 10 then
  wl (sv w a0 0 0) (fun w1 =>
  if kd w1 a0 = 10 then
  bI (C 188 w1 [rV a0, iV a1]) (fun x3 w2 =>
  if x3 = 0 then
   (some (.inr (some (iV (-1)), w2)))
  else
  if kd w2 a0 = 10 then
  bI (C 197 w2 [rV a0, iV a1]) (fun x5 w4 =>
  some (.inr (some (iV x5), w4))) else none) else none) else none := by
  rfl
set_option maxRecDepth 100000 in
theorem eX12_longest_0 (C : sC) (w : sW) (a0 a1 a2 : Int) : sg C mX12_longest 2000 0 [some (rV a0), some (iV a1), some (iV a2), none, none, none] [] w =
  if kd w a0 = 10 then
  wl (sv w a0 0 0) (fun w1 =>
  if kd w1 a0 = 10 then
  bI (C 188 w1 [rV a0, iV a1]) (fun x3 w2 =>
  if x3 = 0 then
   (some (.inr (some (iV (-1)), w2)))
  else
  if kd w2 a0 = 10 then
  bI (C 189 w2 [rV a0, iV a2]) (fun x5 w4 =>
  if x5 = 0 then
   (some (.inr (some (iV (-1)), w4)))
  else
  some (.inl (31, [some (rV a0), some (iV a1), some (iV a2), some (iV 0), some (iV 0), some (iV 0)], [], w4))) else none) else none) else none := by
  rfl
set_option maxRecDepth 100000 in
theorem eX12_longest_31 (C : sC) (w : sW) (a0 a1 a2 a3 a4 a5 : Int) : sg C mX12_longest 2000 31 [some (rV a0), some (iV a1), some (iV a2), some (iV a3), some (iV a4), some (iV a5)] [] w =
  if kd w a0 = 10 then
  bI (C 180 w [rV a0, iV a1]) (fun x2 w1 =>
  if a5 < x2 then
   (if kd w1 a0 = 10 then
   bI (C 181 w1 [rV a0, iV a1, iV a5]) (fun x4 w3 =>
   if x4 = a2 then
    (if a3 < (w32 (a4 + 1)) then
     (some (.inl (31, [some (rV a0), some (iV a1), some (iV a2), some (iV (w32 (a4 + 1))), some (iV (w32 (a4 + 1))), some (iV (w32 (a5 + 1)))], [], w3)))
    else
    some (.inl (31, [some (rV a0), some (iV a1), some (iV a2), some (iV a3), some (iV (w32 (a4 + 1))), some (iV (w32 (a5 + 1)))], [], w3)))
   else
   if a3 < (0 : Int) then
    (some (.inl (31, [some (rV a0), some (iV a1), some (iV a2), some (iV 0), some (iV 0), some (iV (w32 (a5 + 1)))], [], w3)))
   else
   some (.inl (31, [some (rV a0), some (iV a1), some (iV a2), some (iV a3), some (iV 0), some (iV (w32 (a5 + 1)))], [], w3))) else none)
  else
  some (.inr (some (iV a3), w1))) else none := by
  rfl
set_option maxRecDepth 100000 in
theorem eX12_word_0 (C : sC) (w : sW) (a0 a1 a2 : Int) : sg C mX12_word 2000 0 [some (rV a0), some (iV a1), some (iV a2), none, none] [] w =
  if kd w a0 = 10 then
  wl (sv w a0 0 0) (fun w1 =>
  if kd w1 a0 = 10 then
  bI (C 188 w1 [rV a0, iV a1]) (fun x3 w2 =>
  if x3 = 0 then
   (if kd w2 a0 = 10 then
   bI (C 150 w2 [rV a0]) (fun x5 w4 =>
   some (.inr (some (iV x5), w4))) else none)
  else
  if kd w2 a0 = 10 then
  bI (C 180 w2 [rV a0, iV a1]) (fun x7 w6 =>
  bI (C 155 w6 [iV a2, iV 0, iV x7]) (fun x9 w8 =>
  if x9 = 0 then
   (if kd w8 a0 = 10 then
   bI (C 150 w8 [rV a0]) (fun x11 w10 =>
   some (.inr (some (iV x11), w10))) else none)
  else
  some (.inl (36, [some (rV a0), some (iV a1), some (iV a2), some (iV 0), some (iV a2)], [], w8)))) else none) else none) else none := by
  rfl
set_option maxRecDepth 100000 in
theorem eX12_word_36 (C : sC) (w : sW) (a0 a1 a2 a3 a4 : Int) : sg C mX12_word 2000 36 [some (rV a0), some (iV a1), some (iV a2), some (iV a3), some (iV a4)] [] w =
  if a4 < (w32 (a2 + 32)) then
   (if kd w a0 = 10 then
   bI (C 180 w [rV a0, iV a1]) (fun x2 w1 =>
   if a4 < x2 then
    (if kd w1 a0 = 10 then
    bI (C 181 w1 [rV a0, iV a1, iV a4]) (fun x4 w3 =>
    some (.inl (36, [some (rV a0), some (iV a1), some (iV a2), some (iV (f_ior (f_ishl a3 1) x4)), some (iV (w32 (a4 + 1)))], [], w3))) else none)
   else
   some (.inl (36, [some (rV a0), some (iV a1), some (iV a2), some (iV (f_ior (f_ishl a3 1) 0)), some (iV (w32 (a4 + 1)))], [], w1))) else none)
  else
  some (.inr (some (iV a3), w)) := by
  rfl
set_option maxRecDepth 100000 in
theorem eX12_leaves_0 (C : sC) (w : sW) (a0 a1 : Int) : sg C mX12_leaves 2000 0 [some (rV a0), some (iV a1)] [] w =
  if kd w a0 = 10 then
  wl (sv w a0 0 0) (fun w1 =>
  if kd w1 a0 = 10 then
  bI (C 188 w1 [rV a0, iV a1]) (fun x3 w2 =>
  if x3 = 0 then
   (some (.inr (some (iV (-1)), w2)))
  else
  if kd w2 a0 = 10 then
  if kd w2 (gv w2 a0 14) = 20 ∧ 0 ≤ (w32 (2611 + a1)) ∧ (w32 (2611 + a1)) < ln w2 (gv w2 a0 14) then
  some (.inr (some (iV (gv w2 (gv w2 a0 14) (w32 (2611 + a1)))), w2)) else none else none) else none) else none := by
  rfl
set_option maxRecDepth 100000 in
theorem eX12_leaf_0 (C : sC) (w : sW) (a0 a1 a2 a3 : Int) : sg C mX12_leaf 2000 0 [some (rV a0), some (iV a1), some (iV a2), some (iV a3), none, none] [] w =
  if kd w a0 = 10 then
  wl (sv w a0 0 0) (fun w1 =>
  if kd w1 a0 = 10 then
  bI (C 188 w1 [rV a0, iV a1]) (fun x3 w2 =>
  if x3 = 0 then
   (some (.inr (some (iV (-1)), w2)))
  else
  if kd w2 a0 = 10 then
  if kd w2 (gv w2 a0 14) = 20 ∧ 0 ≤ (w32 (2611 + a1)) ∧ (w32 (2611 + a1)) < ln w2 (gv w2 a0 14) then
  bI (C 155 w2 [iV a2, iV 0, iV (w32 ((gv w2 (gv w2 a0 14) (w32 (2611 + a1))) - 1))]) (fun x5 w4 =>
  if x5 = 0 then
   (some (.inr (some (iV (-1)), w4)))
  else
  some (.inl (41, [some (rV a0), some (iV a1), some (iV a2), some (iV a3), some (iV 0), some (iV 0)], [], w4))) else none else none) else none) else none := by
  rfl
set_option maxRecDepth 100000 in
theorem eX12_leaf_41 (C : sC) (w : sW) (a0 a1 a2 a3 a4 a5 : Int) : sg C mX12_leaf 2000 41 [some (rV a0), some (iV a1), some (iV a2), some (iV a3), some (iV a4), some (iV a5)] [] w =
  if a5 < a2 then
   (if kd w a0 = 10 then
   if kd w a0 = 10 then
   bI (C 182 w [rV a0, iV a1, iV a5]) (fun x2 w1 =>
   if kd w1 (gv w a0 14) = 20 ∧ 0 ≤ x2 ∧ x2 < ln w1 (gv w a0 14) then
   some (.inl (41, [some (rV a0), some (iV a1), some (iV a2), some (iV a3), some (iV (w32 (a4 + (gv w1 (gv w a0 14) x2)))), some (iV (w32 (a5 + 1)))], [], w1)) else none) else none else none)
  else
  if kd w a0 = 10 then
  if kd w a0 = 10 then
  bI (C 182 w [rV a0, iV a1, iV a2]) (fun x4 w3 =>
  if kd w3 (gv w a0 14) = 20 ∧ 0 ≤ x4 ∧ x4 < ln w3 (gv w a0 14) then
  if a3 = 0 then
   (some (.inr (some (iV (gv w3 (gv w a0 14) x4)), w3)))
  else if a3 = 1 then
   (if kd w3 a0 = 10 then
   bI (C 191 w3 [rV a0, iV a1, iV a4, iV (w32 (a4 + (gv w3 (gv w a0 14) x4)))]) (fun x6 w5 =>
   some (.inr (some (iV x6), w5))) else none)
  else if a3 = 2 then
   (some (.inr (some (iV a4), w3)))
  else some (.inr (some (iV (-1)), w3)) else none) else none else none := by
  rfl
set_option maxRecDepth 100000 in
theorem eX12_highOf_0 (C : sC) (w : sW) (a0 : Int) : sg C mX12_highOf 2000 0 [some (iV a0)] [] w =
  if a0 < 2 then
   (some (.inr (some (iV 0), w)))
  else
  if (2 : Int) = 0 then none else
  bI (C 203 w [iV (w32 (Int.tdiv (w32 (a0 + 1)) 2))]) (fun x2 w1 =>
  some (.inr (some (iV (w32 (1 + x2))), w1))) := by
  rfl
set_option maxRecDepth 100000 in
theorem eX12_mixedOf_0 (C : sC) (w : sW) (a0 : Int) : sg C mX12_mixedOf 2000 0 [some (iV a0)] [] w =
  if a0 < 2 then
   (some (.inr (some (iV 0), w)))
  else
  if (2 : Int) = 0 then none else
  bI (C 204 w [iV (w32 (Int.tdiv (w32 (a0 + 1)) 2))]) (fun x2 w1 =>
  if (2 : Int) = 0 then none else
  bI (C 204 w1 [iV (w32 (Int.tdiv a0 2))]) (fun x4 w3 =>
  if a0 = 3 then
   (some (.inr (some (iV (w32 ((w32 (x2 + x4)) + 1))), w3)))
  else
  some (.inr (some (iV (w32 ((w32 (x2 + x4)) + 0))), w3)))) := by
  rfl
set_option maxRecDepth 100000 in
theorem eX12_innerOf_0 (C : sC) (w : sW) (a0 : Int) : sg C mX12_innerOf 2000 0 [some (iV a0)] [] w =
  if a0 < 2 then
   (some (.inr (some (iV 0), w)))
  else
  some (.inr (some (iV (w32 (a0 - 1))), w)) := by
  rfl
set_option maxRecDepth 100000 in
theorem eX12_costOf_0 (C : sC) (w : sW) (a0 a1 : Int) : sg C mX12_costOf 2000 0 [some (rV a0), some (iV a1), none, none] [] w =
  if kd w a0 = 10 then
  if kd w (gv w a0 14) = 20 ∧ 0 ≤ (w32 (2611 + a1)) ∧ (w32 (2611 + a1)) < ln w (gv w a0 14) then
  bI (C 205 w [iV (gv w (gv w a0 14) (w32 (2611 + a1)))]) (fun x2 w1 =>
  some (.inl (18, [some (rV a0), some (iV a1), some (iV (w32 (5 * x2))), some (iV 0)], [], w1))) else none else none := by
  rfl
set_option maxRecDepth 100000 in
theorem eX12_costOf_18 (C : sC) (w : sW) (a0 a1 a2 a3 : Int) : sg C mX12_costOf 2000 18 [some (rV a0), some (iV a1), some (iV a2), some (iV a3)] [] w =
  if kd w a0 = 10 then
  if kd w (gv w a0 14) = 20 ∧ 0 ≤ (w32 (2611 + a1)) ∧ (w32 (2611 + a1)) < ln w (gv w a0 14) then
  if a3 < (gv w (gv w a0 14) (w32 (2611 + a1))) then
   (if kd w a0 = 10 then
   if kd w a0 = 10 then
   bI (C 182 w [rV a0, iV a1, iV a3]) (fun x2 w1 =>
   if kd w1 (gv w a0 14) = 20 ∧ 0 ≤ x2 ∧ x2 < ln w1 (gv w a0 14) then
   if (32 : Int) = 0 then none else
   some (.inl (18, [some (rV a0), some (iV a1), some (iV (w32 (a2 + (w32 ((w32 (Int.tdiv (w32 ((gv w1 (gv w a0 14) x2) + 31)) 32)) + 4))))), some (iV (w32 (a3 + 1)))], [], w1)) else none) else none else none)
  else
  some (.inr (some (iV a2), w)) else none else none := by
  rfl
set_option maxRecDepth 100000 in
theorem eX12_tree_0 (C : sC) (w : sW) (a0 a1 a2 : Int) : sg C mX12_tree 2000 0 [some (rV a0), some (iV a1), some (iV a2), none] [] w =
  if kd w a0 = 10 then
  wl (sv w a0 0 0) (fun w1 =>
  if kd w1 a0 = 10 then
  bI (C 188 w1 [rV a0, iV a1]) (fun x3 w2 =>
  if x3 = 0 then
   (some (.inr (some (iV (-1)), w2)))
  else
  if kd w2 a0 = 10 then
  if kd w2 (gv w2 a0 14) = 20 ∧ 0 ≤ (w32 (2611 + a1)) ∧ (w32 (2611 + a1)) < ln w2 (gv w2 a0 14) then
  if a2 = 0 then
   (bI (C 203 w2 [iV (gv w2 (gv w2 a0 14) (w32 (2611 + a1)))]) (fun x5 w4 =>
   some (.inr (some (iV x5), w4))))
  else if a2 = 1 then
   (bI (C 205 w2 [iV (gv w2 (gv w2 a0 14) (w32 (2611 + a1)))]) (fun x7 w6 =>
   some (.inr (some (iV x7), w6))))
  else if a2 = 2 then
   (bI (C 204 w2 [iV (gv w2 (gv w2 a0 14) (w32 (2611 + a1)))]) (fun x9 w8 =>
   some (.inr (some (iV x9), w8))))
  else if a2 = 3 then
   (if kd w2 a0 = 10 then
   bI (C 206 w2 [rV a0, iV a1]) (fun x11 w10 =>
   some (.inr (some (iV x11), w10))) else none)
  else some (.inr (some (iV (-1)), w2)) else none else none) else none) else none := by
  rfl
set_option maxRecDepth 100000 in
theorem eX12_firstBits_0 (C : sC) (w : sW) (a0 a1 a2 a3 : Int) : sg C mX12_firstBits 2000 0 [some (rV a0), some (iV a1), some (iV a2), some (iV a3), none, none, none, none, none, none, none, none, none] [] w =
  if kd w a0 = 10 then
  wl (sv w a0 26 0) (fun w1 =>
  some (.inl (13, [some (rV a0), none, none, some (iV a3), some (lV a1), none, some (lV a2), none, none, none, none, none, none], [], w1))) else none := by
  rfl
set_option maxRecDepth 100000 in
theorem eX12_firstBits_13 (C : sC) (w : sW) (a0 a3 a4 a6 : Int) : sg C mX12_firstBits 2000 13 [some (rV a0), none, none, some (iV a3), some (lV a4), none, some (lV a6), none, none, none, none, none, none] [] w =
  if (cmpL a4 (w64 (2 * a6))) < 0 then
   (some (.inl (46, [some (rV a0), none, none, some (iV a3), some (lV a4), none, some (lV a6), none, none, none, none, none, none], [], w)))
  else
  if kd w a0 = 10 then
  if kd w a0 = 10 then
  wl (sv w a0 26 (w32 ((gv w a0 26) + 1))) (fun w1 =>
  some (.inl (13, [some (rV a0), none, none, some (iV a3), some (lV a4), none, some (lV (w64 (a6 * 2))), none, none, none, none, none, none], [], w1))) else none else none := by
  rfl
set_option maxRecDepth 100000 in
theorem eX12_firstBits_46 (C : sC) (w : sW) (a0 a3 a4 a6 : Int) : sg C mX12_firstBits 2000 46 [some (rV a0), none, none, some (iV a3), some (lV a4), none, some (lV a6), none, none, none, none, none, none] [] w =
  if (cmpL a4 a6) < 0 then
   (if kd w a0 = 10 then
   if kd w a0 = 10 then
   wl (sv w a0 26 (w32 ((gv w a0 26) - 1))) (fun w1 =>
   some (.inl (46, [some (rV a0), none, none, some (iV a3), some (lV (w64 (a4 * 2))), none, some (lV a6), none, none, none, none, none, none], [], w1))) else none else none)
  else
  some (.inl (88, [some (rV a0), none, none, some (iV a3), none, none, some (lV a6), none, some (lV 1), none, some (lV (w64 (a4 - a6))), none, some (iV 1)], [], w)) := by
  rfl
set_option maxRecDepth 100000 in
theorem eX12_firstBits_88 (C : sC) (w : sW) (a0 a3 a6 a8 a10 a12 : Int) : sg C mX12_firstBits 2000 88 [some (rV a0), none, none, some (iV a3), none, none, some (lV a6), none, some (lV a8), none, some (lV a10), none, some (iV a12)] [] w =
  if a12 < a3 then
   (if (cmpL (w64 (a10 * 2)) a6) < 0 then
    (some (.inl (88, [some (rV a0), none, none, some (iV a3), none, none, some (lV a6), none, some (lV (w64 (a8 * 2))), none, some (lV (w64 (a10 * 2))), none, some (iV (w32 (a12 + 1)))], [], w)))
   else
   some (.inl (88, [some (rV a0), none, none, some (iV a3), none, none, some (lV a6), none, some (lV (w64 ((w64 (a8 * 2)) + 1))), none, some (lV (w64 ((w64 (a10 * 2)) - a6))), none, some (iV (w32 (a12 + 1)))], [], w)))
  else
  if 0 < (cmpL (w64 (2 * a10)) a6) then
   (if (cmpL (w64 (a8 + 1)) (f_lshl 1 a3)) < 0 then
    (some (.inr (some (lV (w64 (a8 + 1))), w)))
   else
   if kd w a0 = 10 then
   if kd w a0 = 10 then
   wl (sv w a0 26 (w32 ((gv w a0 26) + 1))) (fun w1 =>
   if (2 : Int) = 0 then none else
   some (.inr (some (lV (w64 (Int.tdiv (w64 (a8 + 1)) 2))), w1))) else none else none)
  else
  if (cmpL (w64 (2 * a10)) a6) = 0 then
   (if (2 : Int) = 0 then none else
   if (cmpL (Int.tmod a8 2) 1) = 0 then
    (if (cmpL (w64 (a8 + 1)) (f_lshl 1 a3)) < 0 then
     (some (.inr (some (lV (w64 (a8 + 1))), w)))
    else
    if kd w a0 = 10 then
    if kd w a0 = 10 then
    wl (sv w a0 26 (w32 ((gv w a0 26) + 1))) (fun w2 =>
    if (2 : Int) = 0 then none else
    some (.inr (some (lV (w64 (Int.tdiv (w64 (a8 + 1)) 2))), w2))) else none else none)
   else
   if (cmpL a8 (f_lshl 1 a3)) < 0 then
    (some (.inr (some (lV a8), w)))
   else
   if kd w a0 = 10 then
   if kd w a0 = 10 then
   wl (sv w a0 26 (w32 ((gv w a0 26) + 1))) (fun w3 =>
   if (2 : Int) = 0 then none else
   some (.inr (some (lV (w64 (Int.tdiv a8 2))), w3))) else none else none)
  else
  if (cmpL a8 (f_lshl 1 a3)) < 0 then
   (some (.inr (some (lV a8), w)))
  else
  if kd w a0 = 10 then
  if kd w a0 = 10 then
  wl (sv w a0 26 (w32 ((gv w a0 26) + 1))) (fun w4 =>
  if (2 : Int) = 0 then none else
  some (.inr (some (lV (w64 (Int.tdiv a8 2))), w4))) else none else none := by
  rfl
set_option maxRecDepth 100000 in
theorem eX12_asFloat_0 (C : sC) (w : sW) (a0 a1 a2 : Int) : sg C mX12_asFloat 2000 0 [some (rV a0), some (iV a1), some (iV a2), none] [] w =
  if a1 = 0 then
   (some (.inr (some (iV 0), w)))
  else
  if kd w a0 = 10 then
  bL (C 208 w [rV a0, iV a1, iV a2, iV 24]) (fun y2 w1 =>
  if kd w1 a0 = 10 then
  some (.inr (some (iV (f_ior (f_ishl (w32 ((gv w1 a0 26) + 127)) 23) (w32 ((w32 y2) - 8388608)))), w1)) else none) else none := by
  rfl
set_option maxRecDepth 100000 in
theorem eX12_asDouble_0 (C : sC) (w : sW) (a0 a1 a2 : Int) : sg C mX12_asDouble 2000 0 [some (rV a0), some (iV a1), some (iV a2), none, none] [] w =
  if a1 = 0 then
   (some (.inr (some (lV 0), w)))
  else
  if kd w a0 = 10 then
  bL (C 208 w [rV a0, iV a1, iV a2, iV 53]) (fun y2 w1 =>
  if kd w1 a0 = 10 then
  some (.inr (some (lV (f_lor (f_lshl (w64 ((gv w1 a0 26) + 1023)) 52) (w64 (y2 - 4503599627370496)))), w1)) else none) else none := by
  rfl
set_option maxRecDepth 100000 in
theorem eX12_dense_0 (C : sC) (w : sW) (a0 a1 a2 a3 : Int) : sg C mX12_dense 2000 0 [some (rV a0), some (iV a1), some (iV a2), some (iV a3)] [] w =
  if kd w a0 = 10 then
  wl (sv w a0 0 0) (fun w1 =>
  if kd w1 a0 = 10 then
  bI (C 188 w1 [rV a0, iV a1]) (fun x3 w2 =>
  if x3 = 0 then
   (if kd w2 a0 = 10 then
   bI (C 150 w2 [rV a0]) (fun x5 w4 =>
   some (.inr (some (iV x5), w4))) else none)
  else
  if a2 < 0 then
   (if kd w2 a0 = 10 then
   bI (C 150 w2 [rV a0]) (fun x7 w6 =>
   some (.inr (some (iV x7), w6))) else none)
  else
  if a3 < 1 then
   (if kd w2 a0 = 10 then
   bI (C 150 w2 [rV a0]) (fun x9 w8 =>
   some (.inr (some (iV x9), w8))) else none)
  else
  if kd w2 a0 = 10 then
  bI (C 180 w2 [rV a0, iV a1]) (fun x11 w10 =>
  if x11 < a3 then
   (if kd w10 a0 = 10 then
   bI (C 150 w10 [rV a0]) (fun x13 w12 =>
   some (.inr (some (iV x13), w12))) else none)
  else
  if kd w10 a0 = 10 then
  bI (C 180 w10 [rV a0, iV a1]) (fun x15 w14 =>
  if (w32 (x15 - a3)) < a2 then
   (if kd w14 a0 = 10 then
   bI (C 150 w14 [rV a0]) (fun x17 w16 =>
   some (.inr (some (iV x17), w16))) else none)
  else
  if kd w14 a0 = 10 then
  bI (C 191 w14 [rV a0, iV a1, iV a2, iV (w32 (a2 + a3))]) (fun x19 w18 =>
  if kd w18 a0 = 10 then
  bI (C 209 w18 [rV a0, iV x19, iV a3]) (fun x21 w20 =>
  some (.inr (some (iV x21), w20))) else none) else none) else none) else none) else none) else none := by
  rfl
set_option maxRecDepth 100000 in
theorem eX12_load_0 (C : sC) (w : sW) (a0 a1 : Int) : sg C mX12_load 2000 0 [some (rV a0), some (iV a1)] [] w =
  if kd w a0 = 10 then
  wl (sv w a0 0 0) (fun w1 =>
  if kd w1 a0 = 10 then
  bI (C 188 w1 [rV a0, iV a1]) (fun x3 w2 =>
  if x3 = 0 then
   (if kd w2 a0 = 10 then
   bI (C 150 w2 [rV a0]) (fun x5 w4 =>
   some (.inr (some (iV x5), w4))) else none)
  else
  if kd w2 a0 = 10 then
  bI (C 180 w2 [rV a0, iV a1]) (fun x7 w6 =>
  if 0 < x7 then
   (if kd w6 a0 = 10 then
   bI (C 206 w6 [rV a0, iV a1]) (fun x9 w8 =>
   if kd w8 a0 = 10 then
   bI (C 180 w8 [rV a0, iV a1]) (fun x11 w10 =>
   if kd w10 a0 = 10 then
   bI (C 209 w10 [rV a0, iV (w32 (32 * x9)), iV x11]) (fun x13 w12 =>
   some (.inr (some (iV x13), w12))) else none) else none) else none)
  else
  if kd w6 a0 = 10 then
  bI (C 150 w6 [rV a0]) (fun x15 w14 =>
  some (.inr (some (iV x15), w14))) else none) else none) else none) else none := by
  rfl
set_option maxRecDepth 100000 in
theorem eX12_centre_0 (C : sC) (w : sW) (a0 a1 a2 : Int) : sg C mX12_centre 2000 0 [some (rV a0), some (iV a1), some (iV a2), none, none, none, none] [] w =
  if kd w a0 = 10 then
  wl (sv w a0 0 0) (fun w1 =>
  if kd w1 a0 = 10 then
  bI (C 188 w1 [rV a0, iV a1]) (fun x3 w2 =>
  if x3 = 0 then
   (if kd w2 a0 = 10 then
   bI (C 150 w2 [rV a0]) (fun x5 w4 =>
   some (.inr (some (iV x5), w4))) else none)
  else
  bI (C 155 w2 [iV a2, iV 0, iV 1]) (fun x7 w6 =>
  if x7 = 0 then
   (if kd w6 a0 = 10 then
   bI (C 150 w6 [rV a0]) (fun x9 w8 =>
   some (.inr (some (iV x9), w8))) else none)
  else
  some (.inl (35, [some (rV a0), some (iV a1), some (iV a2), some (iV 0), some (iV 0), some (iV 0), none], [], w6)))) else none) else none := by
  rfl
set_option maxRecDepth 100000 in
theorem eX12_centre_35 (C : sC) (w : sW) (a0 a1 a2 a3 a4 a5 : Int) : sg C mX12_centre 2000 35 [some (rV a0), some (iV a1), some (iV a2), some (iV a3), some (iV a4), some (iV a5), none] [] w =
  if kd w a0 = 10 then
  bI (C 180 w [rV a0, iV a1]) (fun x2 w1 =>
  if a5 < x2 then
   (if kd w1 a0 = 10 then
   bI (C 181 w1 [rV a0, iV a1, iV a5]) (fun x4 w3 =>
   if x4 = 0 then
    (some (.inl (35, [some (rV a0), some (iV a1), some (iV a2), some (iV a3), some (iV a4), some (iV (w32 (a5 + 1))), none], [], w3)))
   else
   some (.inl (35, [some (rV a0), some (iV a1), some (iV a2), some (iV (w32 (a3 + 1))), some (iV (w32 (a4 + a5))), some (iV (w32 (a5 + 1))), none], [], w3))) else none)
  else
  if a3 = 0 then
   (if kd w1 a0 = 10 then
   bI (C 150 w1 [rV a0]) (fun x6 w5 =>
   some (.inr (some (iV x6), w5))) else none)
  else
  if kd w1 a0 = 10 then
  bL (C 210 w1 [rV a0, iV a4, iV a3]) (fun y8 w7 =>
  if a2 = 0 then
   (some (.inr (some (iV (w32 (f_lshr y8 32))), w7)))
  else
  some (.inr (some (iV (w32 y8)), w7))) else none) else none := by
  rfl
set_option maxRecDepth 100000 in
theorem eX12_firstApart_0 (C : sC) (w : sW) (a0 a1 a2 : Int) : sg C mX12_firstApart 2000 0 [some (rV a0), some (iV a1), some (iV a2), none] [] w =
  some (.inl (2, [some (rV a0), some (iV a1), some (iV a2), some (iV 0)], [], w)) := by
  rfl
set_option maxRecDepth 100000 in
theorem eX12_firstApart_2 (C : sC) (w : sW) (a0 a1 a2 a3 : Int) : sg C mX12_firstApart 2000 2 [some (rV a0), some (iV a1), some (iV a2), some (iV a3)] [] w =
  if kd w a0 = 10 then
  bI (C 190 w [rV a0, iV a1, iV a3]) (fun x2 w1 =>
  if x2 = 0 then
   (some (.inr (some (iV a3), w1)))
  else
  if kd w1 a0 = 10 then
  bI (C 190 w1 [rV a0, iV a2, iV a3]) (fun x4 w3 =>
  if x4 = 0 then
   (some (.inr (some (iV a3), w3)))
  else
  if kd w3 a0 = 10 then
  bI (C 181 w3 [rV a0, iV a1, iV a3]) (fun x6 w5 =>
  if kd w5 a0 = 10 then
  bI (C 181 w5 [rV a0, iV a2, iV a3]) (fun x8 w7 =>
  if x6 = x8 then
   (some (.inl (2, [some (rV a0), some (iV a1), some (iV a2), some (iV (w32 (a3 + 1)))], [], w7)))
  else
  some (.inr (some (iV a3), w7))) else none) else none) else none) else none := by
  rfl
set_option maxRecDepth 100000 in
theorem eX12_apart_0 (C : sC) (w : sW) (a0 a1 a2 : Int) : sg C mX12_apart 2000 0 [some (rV a0), some (iV a1), some (iV a2), none, none] [] w =
  if kd w a0 = 10 then
  wl (sv w a0 0 0) (fun w1 =>
  if kd w1 a0 = 10 then
  bI (C 188 w1 [rV a0, iV a1]) (fun x3 w2 =>
  if x3 = 0 then
   (some (.inr (some (iV (-1)), w2)))
  else
  if kd w2 a0 = 10 then
  bI (C 188 w2 [rV a0, iV a2]) (fun x5 w4 =>
  if x5 = 0 then
   (some (.inr (some (iV (-1)), w4)))
  else
  if kd w4 a0 = 10 then
  bI (C 180 w4 [rV a0, iV a1]) (fun x7 w6 =>
  if kd w6 a0 = 10 then
  bI (C 180 w6 [rV a0, iV a2]) (fun x9 w8 =>
  if x9 < x7 then
   (if kd w8 a0 = 10 then
   bI (C 180 w8 [rV a0, iV a1]) (fun x11 w10 =>
   if kd w10 a0 = 10 then
   bI (C 180 w10 [rV a0, iV a2]) (fun x13 w12 =>
   some (.inl (65, [some (rV a0), some (iV a1), some (iV a2), some (iV (w32 (x11 - x13))), some (iV 0)], [], w12))) else none) else none)
  else
  if kd w8 a0 = 10 then
  bI (C 180 w8 [rV a0, iV a2]) (fun x15 w14 =>
  if kd w14 a0 = 10 then
  bI (C 180 w14 [rV a0, iV a1]) (fun x17 w16 =>
  some (.inl (65, [some (rV a0), some (iV a1), some (iV a2), some (iV (w32 (x15 - x17))), some (iV 0)], [], w16))) else none) else none) else none) else none) else none) else none) else none := by
  rfl
set_option maxRecDepth 100000 in
theorem eX12_apart_65 (C : sC) (w : sW) (a0 a1 a2 a3 a4 : Int) : sg C mX12_apart 2000 65 [some (rV a0), some (iV a1), some (iV a2), some (iV a3), some (iV a4)] [] w =
  if kd w a0 = 10 then
  bI (C 190 w [rV a0, iV a1, iV a4]) (fun x2 w1 =>
  if x2 = 0 then
   (some (.inr (some (iV a3), w1)))
  else
  if kd w1 a0 = 10 then
  bI (C 190 w1 [rV a0, iV a2, iV a4]) (fun x4 w3 =>
  if x4 = 0 then
   (some (.inr (some (iV a3), w3)))
  else
  if kd w3 a0 = 10 then
  bI (C 181 w3 [rV a0, iV a1, iV a4]) (fun x6 w5 =>
  if kd w5 a0 = 10 then
  bI (C 181 w5 [rV a0, iV a2, iV a4]) (fun x8 w7 =>
  if x6 = x8 then
   (some (.inl (65, [some (rV a0), some (iV a1), some (iV a2), some (iV a3), some (iV (w32 (a4 + 1)))], [], w7)))
  else
  some (.inl (65, [some (rV a0), some (iV a1), some (iV a2), some (iV (w32 (a3 + 1))), some (iV (w32 (a4 + 1)))], [], w7))) else none) else none) else none) else none := by
  rfl
set_option maxRecDepth 100000 in
theorem eX12_areLike_0 (C : sC) (w : sW) (a0 a1 a2 : Int) : sg C mX12_areLike 2000 0 [some (rV a0), some (iV a1), some (iV a2)] [] w =
  if kd w a0 = 10 then
  bI (C 180 w [rV a0, iV a1]) (fun x2 w1 =>
  if kd w1 a0 = 10 then
  bI (C 180 w1 [rV a0, iV a2]) (fun x4 w3 =>
  if x2 = x4 then
   (if kd w3 a0 = 10 then
   bI (C 214 w3 [rV a0, iV a1, iV a2]) (fun x6 w5 =>
   if kd w5 a0 = 10 then
   bI (C 180 w5 [rV a0, iV a1]) (fun x8 w7 =>
   if x6 = x8 then
    (some (.inr (some (iV 1), w7)))
   else
   some (.inr (some (iV 0), w7))) else none) else none)
  else
  some (.inr (some (iV 0), w3))) else none) else none := by
  rfl
set_option maxRecDepth 100000 in
theorem eX12_differ_0 (C : sC) (w : sW) (a0 a1 a2 : Int) : sg C mX12_differ 2000 0 [some (rV a0), some (iV a1), some (iV a2)] [] w =
  if kd w a0 = 10 then
  wl (sv w a0 0 0) (fun w1 =>
  if kd w1 a0 = 10 then
  bI (C 188 w1 [rV a0, iV a1]) (fun x3 w2 =>
  if x3 = 0 then
   (some (.inr (some (iV (-1)), w2)))
  else
  if kd w2 a0 = 10 then
  bI (C 188 w2 [rV a0, iV a2]) (fun x5 w4 =>
  if x5 = 0 then
   (some (.inr (some (iV (-1)), w4)))
  else
  if kd w4 a0 = 10 then
  bI (C 216 w4 [rV a0, iV a1, iV a2]) (fun x7 w6 =>
  if x7 = 0 then
   (if kd w6 a0 = 10 then
   bI (C 214 w6 [rV a0, iV a1, iV a2]) (fun x9 w8 =>
   some (.inr (some (iV x9), w8))) else none)
  else
  some (.inr (some (iV (-1)), w6))) else none) else none) else none) else none := by
  rfl
set_option maxRecDepth 100000 in
theorem eX12_isOnTape_0 (C : sC) (w : sW) (a0 a1 a2 a3 : Int) : sg C mX12_isOnTape 2000 0 [some (rV a0), some (iV a1), some (iV a2), some (iV a3), none] [] w =
  some (.inl (3, [some (rV a0), some (iV a1), some (iV a2), some (iV a3), some (iV 0)], [], w)) := by
  rfl
set_option maxRecDepth 100000 in
theorem eX12_isOnTape_3 (C : sC) (w : sW) (a0 a1 a2 a3 a4 : Int) : sg C mX12_isOnTape 2000 3 [some (rV a0), some (iV a1), some (iV a2), some (iV a3), some (iV a4)] [] w =
  if a4 < a3 then
   (if kd w a0 = 10 then
   bI (C 181 w [rV a0, iV a1, iV (w32 (a2 + a4))]) (fun x2 w1 =>
   if kd w1 a0 = 10 then
   if kd w1 (gv w1 a0 1) = 20 ∧ 0 ≤ a4 ∧ a4 < ln w1 (gv w1 a0 1) then
   if x2 = (gv w1 (gv w1 a0 1) a4) then
    (some (.inl (3, [some (rV a0), some (iV a1), some (iV a2), some (iV a3), some (iV (w32 (a4 + 1)))], [], w1)))
   else
   some (.inr (some (iV 0), w1)) else none else none) else none)
  else
  some (.inr (some (iV 1), w)) := by
  rfl
set_option maxRecDepth 100000 in
theorem eX12_areTapeBits_0 (C : sC) (w : sW) (a0 a1 a2 : Int) : sg C mX12_areTapeBits 2000 0 [some (rV a0), some (iV a1), some (iV a2), none] [] w =
  some (.inl (2, [some (rV a0), some (iV a1), some (iV a2), some (iV 0)], [], w)) := by
  rfl
set_option maxRecDepth 100000 in
theorem eX12_areTapeBits_2 (C : sC) (w : sW) (a0 a1 a2 a3 : Int) : sg C mX12_areTapeBits 2000 2 [some (rV a0), some (iV a1), some (iV a2), some (iV a3)] [] w =
  if a3 < a1 then
   (if kd w a0 = 10 then
   if kd w (gv w a0 1) = 20 ∧ 0 ≤ a3 ∧ a3 < ln w (gv w a0 1) then
   if 1 < (gv w (gv w a0 1) a3) then
    (some (.inr (some (iV 0), w)))
   else
   some (.inl (2, [some (rV a0), some (iV a1), some (iV a2), some (iV (w32 (a3 + 1)))], [], w)) else none else none)
  else
  bI (C 155 w [iV a1, iV 1, iV a2]) (fun x2 w1 =>
  if x2 = 0 ∨ x2 = 1 then some (.inr (some (iV x2), w1)) else none) := by
  rfl
set_option maxRecDepth 100000 in
theorem eX12_seek_0 (C : sC) (w : sW) (a0 a1 : Int) : sg C mX12_seek 2000 0 [some (rV a0), some (iV a1), none, none] [] w =
  if kd w a0 = 10 then
  wl (sv w a0 0 0) (fun w1 =>
  if kd w1 a0 = 10 then
  bI (C 154 w1 [rV a0]) (fun x3 w2 =>
  if kd w2 a0 = 10 then
  bI (C 188 w2 [rV a0, iV a1]) (fun x5 w4 =>
  if x5 = 0 then
   (some (.inr (some (iV (-1)), w4)))
  else
  if kd w4 a0 = 10 then
  bI (C 219 w4 [rV a0, iV x3, iV 32]) (fun x7 w6 =>
  if x7 = 0 then
   (some (.inr (some (iV (-1)), w6)))
  else
  if kd w6 a0 = 10 then
  wl (sv w6 a0 28 0) (fun w8 =>
  some (.inl (37, [some (rV a0), some (iV a1), some (iV x3), some (iV 0)], [], w8))) else none) else none) else none) else none) else none := by
  rfl
set_option maxRecDepth 100000 in
theorem eX12_seek_37 (C : sC) (w : sW) (a0 a1 a2 a3 : Int) : sg C mX12_seek 2000 37 [some (rV a0), some (iV a1), some (iV a2), some (iV a3)] [] w =
  if kd w a0 = 10 then
  bI (C 180 w [rV a0, iV a1]) (fun x2 w1 =>
  if x2 < (w32 (a3 + a2)) then
   (if kd w1 a0 = 10 then
   some (.inr (some (iV (gv w1 a0 28)), w1)) else none)
  else
  if kd w1 a0 = 10 then
  bI (C 218 w1 [rV a0, iV a1, iV a3, iV a2]) (fun x4 w3 =>
  if x4 = 0 then
   (some (.inl (37, [some (rV a0), some (iV a1), some (iV a2), some (iV (w32 (a3 + 1)))], [], w3)))
  else
  if kd w3 a0 = 10 then
  if kd w3 a0 = 10 then
  if (kd w3 (gv w3 a0 27) = 20 ∧ 32 ≤ (gv w3 a0 27)) ∧ 0 ≤ (gv w3 a0 28) ∧ (gv w3 a0 28) < ln w3 (gv w3 a0 27) then
  wl (sv w3 (gv w3 a0 27) (gv w3 a0 28) a3) (fun w5 =>
  if kd w5 a0 = 10 then
  if kd w5 a0 = 10 then
  wl (sv w5 a0 28 (w32 ((gv w5 a0 28) + 1))) (fun w6 =>
  some (.inl (37, [some (rV a0), some (iV a1), some (iV a2), some (iV (w32 (a3 + 1)))], [], w6))) else none else none) else none else none else none) else none) else none := by
  rfl
set_option maxRecDepth 100000 in
theorem eX12_seekAt_0 (C : sC) (w : sW) (a0 a1 : Int) : sg C mX12_seekAt 2000 0 [some (rV a0), some (iV a1)] [] w =
  if kd w a0 = 10 then
  wl (sv w a0 0 0) (fun w1 =>
  if kd w1 a0 = 10 then
  bI (C 155 w1 [iV a1, iV 0, iV (w32 ((gv w1 a0 28) - 1))]) (fun x3 w2 =>
  if x3 = 0 then
   (some (.inr (some (iV (-1)), w2)))
  else
  if kd w2 a0 = 10 then
  if kd w2 (gv w2 a0 27) = 20 ∧ 0 ≤ a1 ∧ a1 < ln w2 (gv w2 a0 27) then
  some (.inr (some (iV (gv w2 (gv w2 a0 27) a1)), w2)) else none else none) else none) else none := by
  rfl
set_option maxRecDepth 100000 in
theorem eX12_isLetterAt_0 (C : sC) (w : sW) (a0 a1 : Int) : sg C mX12_isLetterAt 2000 0 [some (rV a0), some (iV a1)] [] w =
  if kd w a0 = 10 then
  if kd w (gv w a0 14) = 20 ∧ 0 ≤ (2615 : Int) ∧ (2615 : Int) < ln w (gv w a0 14) then
  bI (C 155 w [iV a1, iV 0, iV (w32 ((gv w (gv w a0 14) 2615) - 1))]) (fun x2 w1 =>
  if x2 = 0 ∨ x2 = 1 then some (.inr (some (iV x2), w1)) else none) else none else none := by
  rfl
set_option maxRecDepth 100000 in
theorem eX12_letters_0 (C : sC) (w : sW) (a0 : Int) : sg C mX12_letters 2000 0 [some (rV a0)] [] w =
  if kd w a0 = 10 then
  wl (sv w a0 0 0) (fun w1 =>
  if kd w1 a0 = 10 then
  if kd w1 (gv w1 a0 14) = 20 ∧ 0 ≤ (2615 : Int) ∧ (2615 : Int) < ln w1 (gv w1 a0 14) then
  some (.inr (some (iV (gv w1 (gv w1 a0 14) 2615)), w1)) else none else none) else none := by
  rfl
set_option maxRecDepth 100000 in
theorem eX12_letter_0 (C : sC) (w : sW) (a0 a1 : Int) : sg C mX12_letter 2000 0 [some (rV a0), some (iV a1)] [] w =
  if kd w a0 = 10 then
  wl (sv w a0 0 0) (fun w1 =>
  if kd w1 a0 = 10 then
  bI (C 222 w1 [rV a0, iV a1]) (fun x3 w2 =>
  if x3 = 0 then
   (some (.inr (some (iV (-1)), w2)))
  else
  if kd w2 a0 = 10 then
  if kd w2 (gv w2 a0 14) = 20 ∧ 0 ≤ (w32 (2616 + a1)) ∧ (w32 (2616 + a1)) < ln w2 (gv w2 a0 14) then
  some (.inr (some (iV (gv w2 (gv w2 a0 14) (w32 (2616 + a1)))), w2)) else none else none) else none) else none := by
  rfl
set_option maxRecDepth 100000 in
theorem eX12_count_0 (C : sC) (w : sW) (a0 a1 a2 : Int) : sg C mX12_count 2000 0 [some (rV a0), some (iV a1), some (iV a2), none, none] [] w =
  if kd w a0 = 10 then
  wl (sv w a0 0 0) (fun w1 =>
  bI (C 155 w1 [iV a1, iV 0, iV 7]) (fun x3 w2 =>
  if x3 = 0 then
   (some (.inr (some (iV (-1)), w2)))
  else
  if kd w2 a0 = 10 then
  if kd w2 (gv w2 a0 14) = 20 ∧ 0 ≤ (2615 : Int) ∧ (2615 : Int) < ln w2 (gv w2 a0 14) then
  bI (C 155 w2 [iV a2, iV 0, iV (gv w2 (gv w2 a0 14) 2615)]) (fun x5 w4 =>
  if x5 = 0 then
   (some (.inr (some (iV (-1)), w4)))
  else
  some (.inl (38, [some (rV a0), some (iV a1), some (iV a2), some (iV 0), some (iV 0)], [], w4))) else none else none)) else none := by
  rfl
set_option maxRecDepth 100000 in
theorem eX12_count_38 (C : sC) (w : sW) (a0 a1 a2 a3 a4 : Int) : sg C mX12_count 2000 38 [some (rV a0), some (iV a1), some (iV a2), some (iV a3), some (iV a4)] [] w =
  if a4 < a2 then
   (if kd w a0 = 10 then
   if kd w (gv w a0 14) = 20 ∧ 0 ≤ (w32 (2616 + a4)) ∧ (w32 (2616 + a4)) < ln w (gv w a0 14) then
   if (gv w (gv w a0 14) (w32 (2616 + a4))) = a1 then
    (some (.inl (38, [some (rV a0), some (iV a1), some (iV a2), some (iV (w32 (a3 + 1))), some (iV (w32 (a4 + 1)))], [], w)))
   else
   some (.inl (38, [some (rV a0), some (iV a1), some (iV a2), some (iV a3), some (iV (w32 (a4 + 1)))], [], w)) else none else none)
  else
  some (.inr (some (iV a3), w)) := by
  rfl
set_option maxRecDepth 100000 in
theorem eX12_place_0 (C : sC) (w : sW) (a0 a1 a2 : Int) : sg C mX12_place 2000 0 [some (rV a0), some (iV a1), some (iV a2), none, none] [] w =
  if kd w a0 = 10 then
  wl (sv w a0 0 0) (fun w1 =>
  bI (C 155 w1 [iV a1, iV 0, iV 7]) (fun x3 w2 =>
  if x3 = 0 then
   (some (.inr (some (iV (-1)), w2)))
  else
  if a2 < 0 then
   (some (.inr (some (iV (-1)), w2)))
  else
  some (.inl (26, [some (rV a0), some (iV a1), some (iV a2), some (iV 0), some (iV 0)], [], w2)))) else none := by
  rfl
set_option maxRecDepth 100000 in
theorem eX12_place_26 (C : sC) (w : sW) (a0 a1 a2 a3 a4 : Int) : sg C mX12_place 2000 26 [some (rV a0), some (iV a1), some (iV a2), some (iV a3), some (iV a4)] [] w =
  if kd w a0 = 10 then
  if kd w (gv w a0 14) = 20 ∧ 0 ≤ (2615 : Int) ∧ (2615 : Int) < ln w (gv w a0 14) then
  if a4 < (gv w (gv w a0 14) 2615) then
   (if kd w a0 = 10 then
   if kd w (gv w a0 14) = 20 ∧ 0 ≤ (w32 (2616 + a4)) ∧ (w32 (2616 + a4)) < ln w (gv w a0 14) then
   if (gv w (gv w a0 14) (w32 (2616 + a4))) = a1 then
    (if a3 = a2 then
     (some (.inr (some (iV a4), w)))
    else
    some (.inl (26, [some (rV a0), some (iV a1), some (iV a2), some (iV (w32 (a3 + 1))), some (iV (w32 (a4 + 1)))], [], w)))
   else
   some (.inl (26, [some (rV a0), some (iV a1), some (iV a2), some (iV a3), some (iV (w32 (a4 + 1)))], [], w)) else none else none)
  else
  some (.inr (some (iV (-1)), w)) else none else none := by
  rfl
set_option maxRecDepth 100000 in
theorem eX12_least_0 (C : sC) (w : sW) (a0 a1 a2 a3 : Int) : sg C mX12_least 2000 0 [some (rV a0), some (iV a1), some (iV a2), some (iV a3), none, none, none] [] w =
  if kd w a0 = 10 then
  wl (sv w a0 0 0) (fun w1 =>
  if a1 < 0 then
   (some (.inr (some (iV (-1)), w1)))
  else
  if kd w1 a0 = 10 then
  if kd w1 (gv w1 a0 14) = 20 ∧ 0 ≤ (2615 : Int) ∧ (2615 : Int) < ln w1 (gv w1 a0 14) then
  if (gv w1 (gv w1 a0 14) 2615) < a2 then
   (some (.inr (some (iV (-1)), w1)))
  else
  if a3 < 0 then
   (some (.inr (some (iV (-1)), w1)))
  else
  some (.inl (33, [some (rV a0), some (iV a1), some (iV a2), some (iV a3), some (iV 0), some (iV 0), none], [], w1)) else none else none) else none := by
  rfl
set_option maxRecDepth 100000 in
theorem eX12_least_33 (C : sC) (w : sW) (a0 a1 a2 a3 a4 a5 : Int) : sg C mX12_least 2000 33 [some (rV a0), some (iV a1), some (iV a2), some (iV a3), some (iV a4), some (iV a5), none] [] w =
  if a5 < 8 then
   (some (.inl (43, [some (rV a0), some (iV a1), some (iV a2), some (iV a3), some (iV a4), some (iV a5), some (iV a1)], [], w)))
  else
  some (.inr (some (iV (-1)), w)) := by
  rfl
set_option maxRecDepth 100000 in
theorem eX12_least_43 (C : sC) (w : sW) (a0 a1 a2 a3 a4 a5 a6 : Int) : sg C mX12_least 2000 43 [some (rV a0), some (iV a1), some (iV a2), some (iV a3), some (iV a4), some (iV a5), some (iV a6)] [] w =
  if a6 < a2 then
   (if kd w a0 = 10 then
   if kd w (gv w a0 14) = 20 ∧ 0 ≤ (w32 (2616 + a6)) ∧ (w32 (2616 + a6)) < ln w (gv w a0 14) then
   if (gv w (gv w a0 14) (w32 (2616 + a6))) = a5 then
    (some (.inl (43, [some (rV a0), some (iV a1), some (iV a2), some (iV a3), some (iV (w32 (a4 + 1))), some (iV a5), some (iV (w32 (a6 + 1)))], [], w)))
   else
   some (.inl (43, [some (rV a0), some (iV a1), some (iV a2), some (iV a3), some (iV a4), some (iV a5), some (iV (w32 (a6 + 1)))], [], w)) else none else none)
  else
  if a3 < a4 then
   (some (.inr (some (iV a5), w)))
  else
  some (.inl (33, [some (rV a0), some (iV a1), some (iV a2), some (iV a3), some (iV a4), some (iV (w32 (a5 + 1))), none], [], w)) := by
  rfl
set_option maxRecDepth 100000 in
theorem eX12_isInNode_0 (C : sC) (w : sW) (a0 a1 : Int) : sg C mX12_isInNode 2000 0 [some (iV a0), some (iV a1)] [] w =
  if a0 = 0 then
   (some (.inr (some (iV 1), w)))
  else
  if a0 < 3 then
   (if (4 : Int) = 0 then none else
   if (w32 (Int.tdiv a1 4)) = (w32 (a0 - 1)) then
    (some (.inr (some (iV 1), w)))
   else
   if 2 < a0 then
    (if (2 : Int) = 0 then none else
    if (w32 (Int.tdiv a1 2)) = (w32 (a0 - 3)) then
     (some (.inr (some (iV 1), w)))
    else
    some (.inr (some (iV 0), w)))
   else
   some (.inr (some (iV 0), w)))
  else
  if 2 < a0 then
   (if (2 : Int) = 0 then none else
   if (w32 (Int.tdiv a1 2)) = (w32 (a0 - 3)) then
    (some (.inr (some (iV 1), w)))
   else
   some (.inr (some (iV 0), w)))
  else
  some (.inr (some (iV 0), w)) := by
  rfl
set_option maxRecDepth 100000 in
theorem eX12_node_0 (C : sC) (w : sW) (a0 a1 a2 : Int) : sg C mX12_node 2000 0 [some (rV a0), some (iV a1), some (iV a2), none, none, none] [] w =
  if kd w a0 = 10 then
  wl (sv w a0 0 0) (fun w1 =>
  bI (C 155 w1 [iV a1, iV 0, iV 6]) (fun x3 w2 =>
  if x3 = 0 then
   (some (.inr (some (iV (-1)), w2)))
  else
  if a2 < 0 then
   (some (.inr (some (iV (-1)), w2)))
  else
  some (.inl (26, [some (rV a0), some (iV a1), some (iV a2), some (iV 0), some (iV 0), none], [], w2)))) else none := by
  rfl
set_option maxRecDepth 100000 in
theorem eX12_node_26 (C : sC) (w : sW) (a0 a1 a2 a3 a4 : Int) : sg C mX12_node 2000 26 [some (rV a0), some (iV a1), some (iV a2), some (iV a3), some (iV a4), none] [] w =
  if kd w a0 = 10 then
  if kd w (gv w a0 14) = 20 ∧ 0 ≤ (2615 : Int) ∧ (2615 : Int) < ln w (gv w a0 14) then
  if a4 < (gv w (gv w a0 14) 2615) then
   (if kd w a0 = 10 then
   if kd w (gv w a0 14) = 20 ∧ 0 ≤ (w32 (2616 + a4)) ∧ (w32 (2616 + a4)) < ln w (gv w a0 14) then
   bI (C 228 w [iV a1, iV (gv w (gv w a0 14) (w32 (2616 + a4)))]) (fun x2 w1 =>
   if x2 = 0 then
    (some (.inl (26, [some (rV a0), some (iV a1), some (iV a2), some (iV a3), some (iV (w32 (a4 + 1))), none], [], w1)))
   else
   if a3 = a2 then
    (if a1 = 0 then
     (some (.inr (some (iV (f_iand (f_ishr (gv w (gv w a0 14) (w32 (2616 + a4))) 2) 1)), w1)))
    else
    if a1 < 3 then
     (some (.inr (some (iV (f_iand (f_ishr (gv w (gv w a0 14) (w32 (2616 + a4))) 1) 1)), w1)))
    else
    some (.inr (some (iV (f_iand (f_ishr (gv w (gv w a0 14) (w32 (2616 + a4))) 0) 1)), w1)))
   else
   some (.inl (26, [some (rV a0), some (iV a1), some (iV a2), some (iV (w32 (a3 + 1))), some (iV (w32 (a4 + 1))), none], [], w1))) else none else none)
  else
  some (.inr (some (iV (-1)), w)) else none else none := by
  rfl
set_option maxRecDepth 100000 in
theorem eX12_save_0 (C : sC) (w : sW) (a0 a1 a2 : Int) : sg C mX12_save 2000 0 [some (rV a0), some (rV a1), some (iV a2), none] [] w =
  some (.inl (2, [some (rV a0), some (rV a1), some (iV a2), some (iV 0)], [], w)) := by
  rfl
set_option maxRecDepth 100000 in
theorem eX12_save_2 (C : sC) (w : sW) (a0 a1 a2 a3 : Int) : sg C mX12_save 2000 2 [some (rV a0), some (rV a1), some (iV a2), some (iV a3)] [] w =
  if a3 < 3213 then
   (if kd w a0 = 10 then
   if kd w (gv w a0 14) = 20 ∧ 0 ≤ (w32 (2607 + a3)) ∧ (w32 (2607 + a3)) < ln w (gv w a0 14) then
   if (kd w a1 = 20 ∧ 32 ≤ a1) ∧ 0 ≤ (w32 (a2 + a3)) ∧ (w32 (a2 + a3)) < ln w a1 then
   wl (sv w a1 (w32 (a2 + a3)) (gv w (gv w a0 14) (w32 (2607 + a3)))) (fun w1 =>
   some (.inl (2, [some (rV a0), some (rV a1), some (iV a2), some (iV (w32 (a3 + 1)))], [], w1))) else none else none else none)
  else
  some (.inr (none, w)) := by
  rfl
set_option maxRecDepth 100000 in
theorem eX12_comeBack_0 (C : sC) (w : sW) (a0 a1 a2 : Int) : sg C mX12_comeBack 2000 0 [some (rV a0), some (rV a1), some (iV a2), none] [] w =
  some (.inl (2, [some (rV a0), some (rV a1), some (iV a2), some (iV 0)], [], w)) := by
  rfl
set_option maxRecDepth 100000 in
theorem eX12_comeBack_2 (C : sC) (w : sW) (a0 a1 a2 a3 : Int) : sg C mX12_comeBack 2000 2 [some (rV a0), some (rV a1), some (iV a2), some (iV a3)] [] w =
  if a3 < 3213 then
   (if kd w a0 = 10 then
   if kd w a1 = 20 ∧ 0 ≤ (w32 (a2 + a3)) ∧ (w32 (a2 + a3)) < ln w a1 then
   if (kd w (gv w a0 14) = 20 ∧ 32 ≤ (gv w a0 14)) ∧ 0 ≤ (w32 (2607 + a3)) ∧ (w32 (2607 + a3)) < ln w (gv w a0 14) then
   wl (sv w (gv w a0 14) (w32 (2607 + a3)) (gv w a1 (w32 (a2 + a3)))) (fun w1 =>
   some (.inl (2, [some (rV a0), some (rV a1), some (iV a2), some (iV (w32 (a3 + 1)))], [], w1))) else none else none else none)
  else
  some (.inr (none, w)) := by
  rfl
set_option maxRecDepth 100000 in
theorem eX12_snap_0 (C : sC) (w : sW) (a0 : Int) : sg C mX12_snap 2000 0 [some (rV a0), none] [] w =
  if kd w a0 = 10 then
  if (gv w a0 24) = 8 then
   (some (.inl (11, [some (rV a0), some (iV 0)], [], w)))
  else
  if kd w a0 = 10 then
  if kd w a0 = 10 then
  if kd w a0 = 10 then
  bN (C 230 w [rV a0, rV (gv w a0 17), iV (w32 (3213 * (gv w a0 24)))]) (fun w1 =>
  if kd w1 a0 = 10 then
  if kd w1 a0 = 10 then
  wl (sv w1 a0 24 (w32 ((gv w1 a0 24) + 1))) (fun w2 =>
  some (.inr (none, w2))) else none else none) else none else none else none else none := by
  rfl
set_option maxRecDepth 100000 in
theorem eX12_snap_11 (C : sC) (w : sW) (a0 a1 : Int) : sg C mX12_snap 2000 11 [some (rV a0), some (iV a1)] [] w =
  if a1 < 22491 then
   (if kd w a0 = 10 then
   if kd w a0 = 10 then
   if kd w (gv w a0 17) = 20 ∧ 0 ≤ (w32 (a1 + 3213)) ∧ (w32 (a1 + 3213)) < ln w (gv w a0 17) then
   if (kd w (gv w a0 17) = 20 ∧ 32 ≤ (gv w a0 17)) ∧ 0 ≤ a1 ∧ a1 < ln w (gv w a0 17) then
   wl (sv w (gv w a0 17) a1 (gv w (gv w a0 17) (w32 (a1 + 3213)))) (fun w1 =>
   some (.inl (11, [some (rV a0), some (iV (w32 (a1 + 1)))], [], w1))) else none else none else none else none)
  else
  if kd w a0 = 10 then
  if kd w a0 = 10 then
  wl (sv w a0 24 (w32 ((gv w a0 24) - 1))) (fun w2 =>
  if kd w2 a0 = 10 then
  if kd w2 a0 = 10 then
  if kd w2 a0 = 10 then
  bN (C 230 w2 [rV a0, rV (gv w2 a0 17), iV (w32 (3213 * (gv w2 a0 24)))]) (fun w3 =>
  if kd w3 a0 = 10 then
  if kd w3 a0 = 10 then
  wl (sv w3 a0 24 (w32 ((gv w3 a0 24) + 1))) (fun w4 =>
  some (.inr (none, w4))) else none else none) else none else none else none) else none else none := by
  rfl
set_option maxRecDepth 100000 in
theorem eX12_areThere_0 (C : sC) (w : sW) (a0 a1 a2 : Int) : sg C mX12_areThere 2000 0 [some (iV a0), some (iV a1), some (iV a2)] [] w =
  if a0 < 0 then
   (some (.inr (some (iV 0), w)))
  else
  if a2 < a1 then
   (some (.inr (some (iV 0), w)))
  else
  if (w32 (a2 - a1)) < a0 then
   (some (.inr (some (iV 0), w)))
  else
  some (.inr (some (iV 1), w)) := by
  rfl
set_option maxRecDepth 100000 in
theorem eX12_whyPut_0 (C : sC) (w : sW) (a0 a1 a2 a3 : Int) : sg C mX12_whyPut 2000 0 [some (rV a0), some (iV a1), some (iV a2), some (iV a3)] [] w =
  if kd w a0 = 10 then
  bI (C 180 w [rV a0, iV a1]) (fun x2 w1 =>
  bI (C 155 w1 [iV a2, iV 0, iV x2]) (fun x4 w3 =>
  if x4 = 0 then
   (some (.inr (some (iV 1), w3)))
  else
  if kd w3 a0 = 10 then
  bI (C 180 w3 [rV a0, iV a1]) (fun x6 w5 =>
  if 600 < (w32 (x6 + a3)) then
   (some (.inr (some (iV 2), w5)))
  else
  some (.inr (some (iV 0), w5))) else none)) else none := by
  rfl
set_option maxRecDepth 100000 in
theorem eX12_refusal_0 (C : sC) (w : sW) (a0 a1 a2 a3 a4 : Int) : sg C mX12_refusal 2000 0 [some (rV a0), some (iV a1), some (iV a2), some (iV a3), some (iV a4)] [] w =
  if a1 = 0 then
   (if kd w a0 = 10 then
   bI (C 234 w [rV a0, iV a2, iV a3, iV 1]) (fun x2 w1 =>
   some (.inr (some (iV x2), w1))) else none)
  else if a1 = 1 then
   (if kd w a0 = 10 then
   bI (C 190 w [rV a0, iV a2, iV a3]) (fun x4 w3 =>
   if x4 = 0 then
    (some (.inr (some (iV 1), w3)))
   else
   if kd w3 a0 = 10 then
   bI (C 181 w3 [rV a0, iV a2, iV a3]) (fun x6 w5 =>
   if x6 = a4 then
    (some (.inr (some (iV 2), w5)))
   else
   some (.inr (some (iV 0), w5))) else none) else none)
  else if a1 = 2 then
   (if kd w a0 = 10 then
   bI (C 180 w [rV a0, iV a2]) (fun x8 w7 =>
   bI (C 233 w7 [iV a3, iV a4, iV x8]) (fun x10 w9 =>
   if x10 = 0 then
    (some (.inr (some (iV 1), w9)))
   else
   some (.inr (some (iV 0), w9)))) else none)
  else if a1 = 3 then
   (if kd w a0 = 10 then
   bI (C 180 w [rV a0, iV a2]) (fun x12 w11 =>
   bI (C 233 w11 [iV a3, iV a4, iV x12]) (fun x14 w13 =>
   if x14 = 0 then
    (some (.inr (some (iV 1), w13)))
   else
   some (.inr (some (iV 0), w13)))) else none)
  else if a1 = 4 then
   (if kd w a0 = 10 then
   bI (C 180 w [rV a0, iV a4]) (fun x16 w15 =>
   if x16 = 0 then
    (some (.inr (some (iV 1), w15)))
   else
   if kd w15 a0 = 10 then
   bI (C 180 w15 [rV a0, iV a2]) (fun x18 w17 =>
   if kd w17 a0 = 10 then
   bI (C 180 w17 [rV a0, iV a4]) (fun x20 w19 =>
   if 600 < (w32 (x18 + x20)) then
    (some (.inr (some (iV 2), w19)))
   else
   some (.inr (some (iV 0), w19))) else none) else none) else none)
  else if a1 = 5 then
   (if kd w a0 = 10 then
   bI (C 190 w [rV a0, iV a2, iV a3]) (fun x22 w21 =>
   if x22 = 0 then
    (some (.inr (some (iV 1), w21)))
   else
   if kd w21 a0 = 10 then
   bI (C 180 w21 [rV a0, iV a4]) (fun x24 w23 =>
   if kd w23 a0 = 10 then
   bI (C 180 w23 [rV a0, iV a2]) (fun x26 w25 =>
   if 600 < (w32 ((w32 (x24 + x26)) - a3)) then
    (some (.inr (some (iV 2), w25)))
   else
   some (.inr (some (iV 0), w25))) else none) else none) else none)
  else if a1 = 6 then
   (if kd w a0 = 10 then
   if kd w (gv w a0 14) = 20 ∧ 0 ≤ (2615 : Int) ∧ (2615 : Int) < ln w (gv w a0 14) then
   bI (C 155 w [iV a3, iV 0, iV (gv w (gv w a0 14) 2615)]) (fun x28 w27 =>
   if x28 = 0 then
    (some (.inr (some (iV 1), w27)))
   else
   if kd w27 a0 = 10 then
   if kd w27 (gv w27 a0 14) = 20 ∧ 0 ≤ (2615 : Int) ∧ (2615 : Int) < ln w27 (gv w27 a0 14) then
   if (gv w27 (gv w27 a0 14) 2615) = 200 then
    (some (.inr (some (iV 2), w27)))
   else
   some (.inr (some (iV 0), w27)) else none else none) else none else none)
  else if kd w a0 = 10 then
  if kd w (gv w a0 14) = 20 ∧ 0 ≤ (2615 : Int) ∧ (2615 : Int) < ln w (gv w a0 14) then
  bI (C 233 w [iV a3, iV a4, iV (gv w (gv w a0 14) 2615)]) (fun x30 w29 =>
  if x30 = 0 then
   (some (.inr (some (iV 1), w29)))
  else
  some (.inr (some (iV 0), w29))) else none else none := by
  rfl
set_option maxRecDepth 100000 in
theorem eX12_live_0 (C : sC) (w : sW) (a0 a1 a2 a3 a4 : Int) : sg C mX12_live 2000 0 [some (rV a0), some (iV a1), some (iV a2), some (iV a3), some (iV a4), none] [] w =
  if a1 = 0 then
   (if kd w a0 = 10 then
   bN (C 185 w [rV a0, iV a2, iV a3, iV a4]) (fun w1 =>
   some (.inr (none, w1))) else none)
  else if a1 = 1 then
   (if kd w a0 = 10 then
   if (kd w (gv w a0 14) = 20 ∧ 32 ≤ (gv w a0 14)) ∧ 0 ≤ (w32 ((w32 (3420 + (w32 (600 * a2)))) + a3)) ∧ (w32 ((w32 (3420 + (w32 (600 * a2)))) + a3)) < ln w (gv w a0 14) then
   wl (sv w (gv w a0 14) (w32 ((w32 (3420 + (w32 (600 * a2)))) + a3)) a4) (fun w2 =>
   some (.inr (none, w2))) else none else none)
  else if a1 = 2 then
   (some (.inl (75, [some (rV a0), none, some (iV a2), some (iV a3), some (iV a4), some (iV 0)], [], w)))
  else if a1 = 3 then
   (some (.inl (98, [some (rV a0), none, some (iV a2), some (iV a3), some (iV a4), some (iV a3)], [], w)))
  else if a1 = 4 then
   (if kd w a0 = 10 then
   bN (C 237 w [rV a0, iV a4, iV 0, iV a2]) (fun w3 =>
   some (.inr (none, w3))) else none)
  else if a1 = 5 then
   (if kd w a0 = 10 then
   bN (C 237 w [rV a0, iV a2, iV a3, iV a4]) (fun w4 =>
   some (.inr (none, w4))) else none)
  else if a1 = 6 then
   (if kd w a0 = 10 then
   if kd w (gv w a0 14) = 20 ∧ 0 ≤ (2615 : Int) ∧ (2615 : Int) < ln w (gv w a0 14) then
   some (.inl (168, [some (rV a0), none, none, some (iV a3), some (iV a4), some (iV (gv w (gv w a0 14) 2615))], [], w)) else none else none)
  else if kd w a0 = 10 then
  if kd w (gv w a0 14) = 20 ∧ 0 ≤ (2615 : Int) ∧ (2615 : Int) < ln w (gv w a0 14) then
  if (kd w (gv w a0 14) = 20 ∧ 32 ≤ (gv w a0 14)) ∧ 0 ≤ (2615 : Int) ∧ (2615 : Int) < ln w (gv w a0 14) then
  wl (sv w (gv w a0 14) 2615 (w32 ((gv w (gv w a0 14) 2615) - a4))) (fun w5 =>
  some (.inl (245, [some (rV a0), none, none, none, some (iV a4), some (iV a3)], [], w5))) else none else none else none := by
  rfl
set_option maxRecDepth 100000 in
theorem eX12_live_75 (C : sC) (w : sW) (a0 a2 a3 a4 a5 : Int) : sg C mX12_live 2000 75 [some (rV a0), none, some (iV a2), some (iV a3), some (iV a4), some (iV a5)] [] w =
  if a5 < a4 then
   (if kd w a0 = 10 then
   bN (C 187 w [rV a0, iV a2, iV a3]) (fun w1 =>
   some (.inl (75, [some (rV a0), none, some (iV a2), some (iV a3), some (iV a4), some (iV (w32 (a5 + 1)))], [], w1))) else none)
  else
  some (.inr (none, w)) := by
  rfl
set_option maxRecDepth 100000 in
theorem eX12_live_98 (C : sC) (w : sW) (a0 a2 a3 a4 a5 : Int) : sg C mX12_live 2000 98 [some (rV a0), none, some (iV a2), some (iV a3), some (iV a4), some (iV a5)] [] w =
  if a5 < (w32 (a3 + a4)) then
   (if kd w a0 = 10 then
   if kd w a0 = 10 then
   bI (C 181 w [rV a0, iV a2, iV a5]) (fun x2 w1 =>
   if (kd w1 (gv w a0 14) = 20 ∧ 32 ≤ (gv w a0 14)) ∧ 0 ≤ (w32 ((w32 (3420 + (w32 (600 * a2)))) + a5)) ∧ (w32 ((w32 (3420 + (w32 (600 * a2)))) + a5)) < ln w1 (gv w a0 14) then
   wl (sv w1 (gv w a0 14) (w32 ((w32 (3420 + (w32 (600 * a2)))) + a5)) (w32 (1 - x2))) (fun w3 =>
   some (.inl (98, [some (rV a0), none, some (iV a2), some (iV a3), some (iV a4), some (iV (w32 (a5 + 1)))], [], w3))) else none) else none else none)
  else
  some (.inr (none, w)) := by
  rfl
set_option maxRecDepth 100000 in
theorem eX12_live_168 (C : sC) (w : sW) (a0 a3 a4 a5 : Int) : sg C mX12_live 2000 168 [some (rV a0), none, none, some (iV a3), some (iV a4), some (iV a5)] [] w =
  if a3 < a5 then
   (if kd w a0 = 10 then
   if kd w a0 = 10 then
   if kd w (gv w a0 14) = 20 ∧ 0 ≤ (w32 ((w32 (2616 + a5)) - 1)) ∧ (w32 ((w32 (2616 + a5)) - 1)) < ln w (gv w a0 14) then
   if (kd w (gv w a0 14) = 20 ∧ 32 ≤ (gv w a0 14)) ∧ 0 ≤ (w32 (2616 + a5)) ∧ (w32 (2616 + a5)) < ln w (gv w a0 14) then
   wl (sv w (gv w a0 14) (w32 (2616 + a5)) (gv w (gv w a0 14) (w32 ((w32 (2616 + a5)) - 1)))) (fun w1 =>
   some (.inl (168, [some (rV a0), none, none, some (iV a3), some (iV a4), some (iV (w32 (a5 + (-1))))], [], w1))) else none else none else none else none)
  else
  if kd w a0 = 10 then
  if (kd w (gv w a0 14) = 20 ∧ 32 ≤ (gv w a0 14)) ∧ 0 ≤ (w32 (2616 + a3)) ∧ (w32 (2616 + a3)) < ln w (gv w a0 14) then
  wl (sv w (gv w a0 14) (w32 (2616 + a3)) a4) (fun w2 =>
  if kd w2 a0 = 10 then
  if kd w2 (gv w2 a0 14) = 20 ∧ 0 ≤ (2615 : Int) ∧ (2615 : Int) < ln w2 (gv w2 a0 14) then
  if (kd w2 (gv w2 a0 14) = 20 ∧ 32 ≤ (gv w2 a0 14)) ∧ 0 ≤ (2615 : Int) ∧ (2615 : Int) < ln w2 (gv w2 a0 14) then
  wl (sv w2 (gv w2 a0 14) 2615 (w32 ((gv w2 (gv w2 a0 14) 2615) + 1))) (fun w3 =>
  some (.inr (none, w3))) else none else none else none) else none else none := by
  rfl
set_option maxRecDepth 100000 in
theorem eX12_live_245 (C : sC) (w : sW) (a0 a4 a5 : Int) : sg C mX12_live 2000 245 [some (rV a0), none, none, none, some (iV a4), some (iV a5)] [] w =
  if a5 < 200 then
   (if kd w a0 = 10 then
   if kd w a0 = 10 then
   if kd w (gv w a0 14) = 20 ∧ 0 ≤ (2615 : Int) ∧ (2615 : Int) < ln w (gv w a0 14) then
   if a5 < (gv w (gv w a0 14) 2615) then
    (if kd w a0 = 10 then
    if kd w (gv w a0 14) = 20 ∧ 0 ≤ (w32 ((w32 (2616 + a5)) + a4)) ∧ (w32 ((w32 (2616 + a5)) + a4)) < ln w (gv w a0 14) then
    if (kd w (gv w a0 14) = 20 ∧ 32 ≤ (gv w a0 14)) ∧ 0 ≤ (w32 (2616 + a5)) ∧ (w32 (2616 + a5)) < ln w (gv w a0 14) then
    wl (sv w (gv w a0 14) (w32 (2616 + a5)) (gv w (gv w a0 14) (w32 ((w32 (2616 + a5)) + a4)))) (fun w1 =>
    some (.inl (245, [some (rV a0), none, none, none, some (iV a4), some (iV (w32 (a5 + 1)))], [], w1))) else none else none else none)
   else
   if (kd w (gv w a0 14) = 20 ∧ 32 ≤ (gv w a0 14)) ∧ 0 ≤ (w32 (2616 + a5)) ∧ (w32 (2616 + a5)) < ln w (gv w a0 14) then
   wl (sv w (gv w a0 14) (w32 (2616 + a5)) 0) (fun w2 =>
   some (.inl (245, [some (rV a0), none, none, none, some (iV a4), some (iV (w32 (a5 + 1)))], [], w2))) else none else none else none else none)
  else
  some (.inr (none, w)) := by
  rfl
set_option maxRecDepth 100000 in
theorem eX12_moves_0 (C : sC) (w : sW) (a0 a1 a2 a3 : Int) : sg C mX12_moves 2000 0 [some (rV a0), some (iV a1), some (iV a2), some (iV a3), none, none] [] w =
  if kd w a0 = 10 then
  bI (C 180 w [rV a0, iV a1]) (fun x2 w1 =>
  some (.inl (12, [some (rV a0), some (iV a1), some (iV a2), some (iV a3), some (iV (w32 (x2 - a2))), some (iV 0)], [], w1))) else none := by
  rfl
set_option maxRecDepth 100000 in
theorem eX12_moves_12 (C : sC) (w : sW) (a0 a1 a2 a3 a4 a5 : Int) : sg C mX12_moves 2000 12 [some (rV a0), some (iV a1), some (iV a2), some (iV a3), some (iV a4), some (iV a5)] [] w =
  if a5 < a4 then
   (if kd w a0 = 10 then
   bI (C 180 w [rV a0, iV a3]) (fun x2 w1 =>
   if kd w1 a0 = 10 then
   bI (C 181 w1 [rV a0, iV a1, iV (w32 (a2 + a5))]) (fun x4 w3 =>
   if kd w3 a0 = 10 then
   bN (C 185 w3 [rV a0, iV a3, iV x2, iV x4]) (fun w5 =>
   some (.inl (12, [some (rV a0), some (iV a1), some (iV a2), some (iV a3), some (iV a4), some (iV (w32 (a5 + 1)))], [], w5))) else none) else none) else none)
  else
  some (.inl (47, [some (rV a0), some (iV a1), some (iV a2), none, some (iV a4), some (iV 0)], [], w)) := by
  rfl
set_option maxRecDepth 100000 in
theorem eX12_moves_47 (C : sC) (w : sW) (a0 a1 a2 a4 a5 : Int) : sg C mX12_moves 2000 47 [some (rV a0), some (iV a1), some (iV a2), none, some (iV a4), some (iV a5)] [] w =
  if a5 < a4 then
   (if kd w a0 = 10 then
   bN (C 187 w [rV a0, iV a1, iV a2]) (fun w1 =>
   some (.inl (47, [some (rV a0), some (iV a1), some (iV a2), none, some (iV a4), some (iV (w32 (a5 + 1)))], [], w1))) else none)
  else
  some (.inr (none, w)) := by
  rfl
set_option maxRecDepth 100000 in
theorem eX12_act_0 (C : sC) (w : sW) (a0 a1 a2 a3 a4 a5 : Int) : sg C mX12_act 2000 0 [some (rV a0), some (iV a1), some (iV a2), some (iV a3), some (iV a4), some (iV a5), none] [] w =
  if a5 = 0 then
   (some (.inr (some (iV (-1)), w)))
  else
  if kd w a0 = 10 then
  bI (C 235 w [rV a0, iV a1, iV a2, iV a3, iV a4]) (fun x2 w1 =>
  if x2 = 0 then
   (if kd w1 a0 = 10 then
   bN (C 232 w1 [rV a0]) (fun w3 =>
   if kd w3 a0 = 10 then
   bN (C 236 w3 [rV a0, iV a1, iV a2, iV a3, iV a4]) (fun w4 =>
   some (.inr (some (iV 0), w4))) else none) else none)
  else
  some (.inr (some (iV x2), w1))) else none := by
  rfl
set_option maxRecDepth 100000 in
theorem eX12_put_0 (C : sC) (w : sW) (a0 a1 a2 a3 : Int) : sg C mX12_put 2000 0 [some (rV a0), some (iV a1), some (iV a2), some (iV a3)] [] w =
  if kd w a0 = 10 then
  wl (sv w a0 0 0) (fun w1 =>
  if kd w1 a0 = 10 then
  bI (C 188 w1 [rV a0, iV a1]) (fun x3 w2 =>
  if x3 = 0 then
   (if kd w2 a0 = 10 then
   bI (C 238 w2 [rV a0, iV 0, iV a1, iV a2, iV a3, iV 0]) (fun x5 w4 =>
   some (.inr (some (iV x5), w4))) else none)
  else
  if kd w2 a0 = 10 then
  bI (C 189 w2 [rV a0, iV a3]) (fun x7 w6 =>
  if x7 = 0 then
   (if kd w6 a0 = 10 then
   bI (C 238 w6 [rV a0, iV 0, iV a1, iV a2, iV a3, iV 0]) (fun x9 w8 =>
   some (.inr (some (iV x9), w8))) else none)
  else
  if kd w6 a0 = 10 then
  bI (C 238 w6 [rV a0, iV 0, iV a1, iV a2, iV a3, iV 1]) (fun x11 w10 =>
  some (.inr (some (iV x11), w10))) else none) else none) else none) else none := by
  rfl
set_option maxRecDepth 100000 in
theorem eX12_set_0 (C : sC) (w : sW) (a0 a1 a2 a3 : Int) : sg C mX12_set 2000 0 [some (rV a0), some (iV a1), some (iV a2), some (iV a3)] [] w =
  if kd w a0 = 10 then
  wl (sv w a0 0 0) (fun w1 =>
  if kd w1 a0 = 10 then
  bI (C 188 w1 [rV a0, iV a1]) (fun x3 w2 =>
  if x3 = 0 then
   (if kd w2 a0 = 10 then
   bI (C 238 w2 [rV a0, iV 1, iV a1, iV a2, iV a3, iV 0]) (fun x5 w4 =>
   some (.inr (some (iV x5), w4))) else none)
  else
  if kd w2 a0 = 10 then
  bI (C 189 w2 [rV a0, iV a3]) (fun x7 w6 =>
  if x7 = 0 then
   (if kd w6 a0 = 10 then
   bI (C 238 w6 [rV a0, iV 1, iV a1, iV a2, iV a3, iV 0]) (fun x9 w8 =>
   some (.inr (some (iV x9), w8))) else none)
  else
  if kd w6 a0 = 10 then
  bI (C 238 w6 [rV a0, iV 1, iV a1, iV a2, iV a3, iV 1]) (fun x11 w10 =>
  some (.inr (some (iV x11), w10))) else none) else none) else none) else none := by
  rfl
set_option maxRecDepth 100000 in
theorem eX12_cut_0 (C : sC) (w : sW) (a0 a1 a2 a3 : Int) : sg C mX12_cut 2000 0 [some (rV a0), some (iV a1), some (iV a2), some (iV a3)] [] w =
  if kd w a0 = 10 then
  wl (sv w a0 0 0) (fun w1 =>
  if kd w1 a0 = 10 then
  bI (C 188 w1 [rV a0, iV a1]) (fun x3 w2 =>
  if x3 = 0 then
   (if kd w2 a0 = 10 then
   bI (C 238 w2 [rV a0, iV 2, iV a1, iV a2, iV a3, iV 0]) (fun x5 w4 =>
   some (.inr (some (iV x5), w4))) else none)
  else
  bI (C 155 w2 [iV a3, iV 1, iV 600]) (fun x7 w6 =>
  if x7 = 0 then
   (if kd w6 a0 = 10 then
   bI (C 238 w6 [rV a0, iV 2, iV a1, iV a2, iV a3, iV 0]) (fun x9 w8 =>
   some (.inr (some (iV x9), w8))) else none)
  else
  if kd w6 a0 = 10 then
  bI (C 238 w6 [rV a0, iV 2, iV a1, iV a2, iV a3, iV 1]) (fun x11 w10 =>
  some (.inr (some (iV x11), w10))) else none)) else none) else none := by
  rfl
set_option maxRecDepth 100000 in
theorem eX12_turn_0 (C : sC) (w : sW) (a0 a1 a2 a3 : Int) : sg C mX12_turn 2000 0 [some (rV a0), some (iV a1), some (iV a2), some (iV a3)] [] w =
  if kd w a0 = 10 then
  wl (sv w a0 0 0) (fun w1 =>
  if kd w1 a0 = 10 then
  bI (C 188 w1 [rV a0, iV a1]) (fun x3 w2 =>
  if x3 = 0 then
   (if kd w2 a0 = 10 then
   bI (C 238 w2 [rV a0, iV 3, iV a1, iV a2, iV a3, iV 0]) (fun x5 w4 =>
   some (.inr (some (iV x5), w4))) else none)
  else
  bI (C 155 w2 [iV a3, iV 1, iV 600]) (fun x7 w6 =>
  if x7 = 0 then
   (if kd w6 a0 = 10 then
   bI (C 238 w6 [rV a0, iV 3, iV a1, iV a2, iV a3, iV 0]) (fun x9 w8 =>
   some (.inr (some (iV x9), w8))) else none)
  else
  if kd w6 a0 = 10 then
  bI (C 238 w6 [rV a0, iV 3, iV a1, iV a2, iV a3, iV 1]) (fun x11 w10 =>
  some (.inr (some (iV x11), w10))) else none)) else none) else none := by
  rfl
set_option maxRecDepth 100000 in
theorem eX12_paste_0 (C : sC) (w : sW) (a0 a1 a2 : Int) : sg C mX12_paste 2000 0 [some (rV a0), some (iV a1), some (iV a2), none, none, none] [] w =
  if kd w a0 = 10 then
  wl (sv w a0 0 0) (fun w1 =>
  if kd w1 a0 = 10 then
  bI (C 154 w1 [rV a0]) (fun x3 w2 =>
  if kd w2 a0 = 10 then
  bI (C 188 w2 [rV a0, iV a1]) (fun x5 w4 =>
  if x5 = 0 then
   (some (.inr (some (iV (-1)), w4)))
  else
  if kd w4 a0 = 10 then
  bI (C 219 w4 [rV a0, iV x3, iV 64]) (fun x7 w6 =>
  if x7 = 0 then
   (some (.inr (some (iV (-1)), w6)))
  else
  if kd w6 a0 = 10 then
  bI (C 234 w6 [rV a0, iV a1, iV a2, iV x3]) (fun x9 w8 =>
  if x9 = 0 then
   (if kd w8 a0 = 10 then
   bN (C 232 w8 [rV a0]) (fun w10 =>
   some (.inl (54, [some (rV a0), some (iV a1), some (iV a2), some (iV x3), none, some (iV 0)], [], w10))) else none)
  else
  some (.inr (some (iV x9), w8))) else none) else none) else none) else none) else none := by
  rfl
set_option maxRecDepth 100000 in
theorem eX12_paste_54 (C : sC) (w : sW) (a0 a1 a2 a3 a5 : Int) : sg C mX12_paste 2000 54 [some (rV a0), some (iV a1), some (iV a2), some (iV a3), none, some (iV a5)] [] w =
  if a5 < a3 then
   (if kd w a0 = 10 then
   if kd w (gv w a0 1) = 20 ∧ 0 ≤ a5 ∧ a5 < ln w (gv w a0 1) then
   if kd w a0 = 10 then
   bN (C 185 w [rV a0, iV a1, iV (w32 (a2 + a5)), iV (gv w (gv w a0 1) a5)]) (fun w1 =>
   some (.inl (54, [some (rV a0), some (iV a1), some (iV a2), some (iV a3), none, some (iV (w32 (a5 + 1)))], [], w1))) else none else none else none)
  else
  some (.inr (some (iV 0), w)) := by
  rfl
set_option maxRecDepth 100000 in
theorem eX12_areTwo_0 (C : sC) (w : sW) (a0 a1 a2 : Int) : sg C mX12_areTwo 2000 0 [some (rV a0), some (iV a1), some (iV a2)] [] w =
  if kd w a0 = 10 then
  bI (C 188 w [rV a0, iV a1]) (fun x2 w1 =>
  if x2 = 0 then
   (some (.inr (some (iV 0), w1)))
  else
  if kd w1 a0 = 10 then
  bI (C 188 w1 [rV a0, iV a2]) (fun x4 w3 =>
  if x4 = 0 then
   (some (.inr (some (iV 0), w3)))
  else
  if a1 = a2 then
   (some (.inr (some (iV 0), w3)))
  else
  some (.inr (some (iV 1), w3))) else none) else none := by
  rfl
set_option maxRecDepth 100000 in
theorem eX12_join_0 (C : sC) (w : sW) (a0 a1 a2 : Int) : sg C mX12_join 2000 0 [some (rV a0), some (iV a1), some (iV a2)] [] w =
  if kd w a0 = 10 then
  wl (sv w a0 0 0) (fun w1 =>
  if kd w1 a0 = 10 then
  bI (C 244 w1 [rV a0, iV a1, iV a2]) (fun x3 w2 =>
  if kd w2 a0 = 10 then
  bI (C 238 w2 [rV a0, iV 4, iV a1, iV 0, iV a2, iV x3]) (fun x5 w4 =>
  some (.inr (some (iV x5), w4))) else none) else none) else none := by
  rfl
set_option maxRecDepth 100000 in
theorem eX12_split_0 (C : sC) (w : sW) (a0 a1 a2 a3 : Int) : sg C mX12_split 2000 0 [some (rV a0), some (iV a1), some (iV a2), some (iV a3)] [] w =
  if kd w a0 = 10 then
  wl (sv w a0 0 0) (fun w1 =>
  if kd w1 a0 = 10 then
  bI (C 244 w1 [rV a0, iV a1, iV a3]) (fun x3 w2 =>
  if kd w2 a0 = 10 then
  bI (C 238 w2 [rV a0, iV 5, iV a1, iV a2, iV a3, iV x3]) (fun x5 w4 =>
  some (.inr (some (iV x5), w4))) else none) else none) else none := by
  rfl
set_option maxRecDepth 100000 in
theorem eX12_type_0 (C : sC) (w : sW) (a0 a1 a2 : Int) : sg C mX12_type 2000 0 [some (rV a0), some (iV a1), some (iV a2)] [] w =
  if kd w a0 = 10 then
  wl (sv w a0 0 0) (fun w1 =>
  bI (C 155 w1 [iV a2, iV 0, iV 7]) (fun x3 w2 =>
  if kd w2 a0 = 10 then
  bI (C 238 w2 [rV a0, iV 6, iV 0, iV a1, iV a2, iV x3]) (fun x5 w4 =>
  some (.inr (some (iV x5), w4))) else none)) else none := by
  rfl
set_option maxRecDepth 100000 in
theorem eX12_erase_0 (C : sC) (w : sW) (a0 a1 a2 : Int) : sg C mX12_erase 2000 0 [some (rV a0), some (iV a1), some (iV a2)] [] w =
  if kd w a0 = 10 then
  wl (sv w a0 0 0) (fun w1 =>
  bI (C 155 w1 [iV a2, iV 1, iV 200]) (fun x3 w2 =>
  if kd w2 a0 = 10 then
  bI (C 238 w2 [rV a0, iV 7, iV 0, iV a1, iV a2, iV x3]) (fun x5 w4 =>
  some (.inr (some (iV x5), w4))) else none)) else none := by
  rfl
set_option maxRecDepth 100000 in
theorem eX12_undo_0 (C : sC) (w : sW) (a0 : Int) : sg C mX12_undo 2000 0 [some (rV a0)] [] w =
  if kd w a0 = 10 then
  wl (sv w a0 0 0) (fun w1 =>
  if kd w1 a0 = 10 then
  if (gv w1 a0 24) = 0 then
   (some (.inr (some (iV (-1)), w1)))
  else
  if kd w1 a0 = 10 then
  if kd w1 a0 = 10 then
  wl (sv w1 a0 24 (w32 ((gv w1 a0 24) - 1))) (fun w2 =>
  if kd w2 a0 = 10 then
  if kd w2 a0 = 10 then
  if kd w2 a0 = 10 then
  bN (C 231 w2 [rV a0, rV (gv w2 a0 17), iV (w32 (3213 * (gv w2 a0 24)))]) (fun w3 =>
  if kd w3 a0 = 10 then
  some (.inr (some (iV (gv w3 a0 24)), w3)) else none) else none else none else none) else none else none else none) else none := by
  rfl
set_option maxRecDepth 100000 in
theorem eX12_draw_0 (C : sC) (w : sW) (a0 a1 : Int) : sg C mX12_draw 2000 0 [some (rV a0), some (iV a1)] [] w =
  if kd w a0 = 10 then
  if kd w a0 = 10 then
  wl (sv w a0 29 (w32 ((w32 ((gv w a0 29) * 1103515245)) + 12345))) (fun w1 =>
  if kd w1 a0 = 10 then
  if a1 = 0 then none else
  some (.inr (some (iV (Int.tmod (f_iushr (gv w1 a0 29) 8) a1)), w1)) else none) else none else none := by
  rfl
set_option maxRecDepth 100000 in
theorem eX12_doIf_0 (C : sC) (w : sW) (a0 a1 a2 a3 a4 : Int) : sg C mX12_doIf 2000 0 [some (rV a0), some (iV a1), some (iV a2), some (iV a3), some (iV a4)] [] w =
  if kd w a0 = 10 then
  bI (C 235 w [rV a0, iV a1, iV a2, iV a3, iV a4]) (fun x2 w1 =>
  if x2 = 0 then
   (if kd w1 a0 = 10 then
   bN (C 236 w1 [rV a0, iV a1, iV a2, iV a3, iV a4]) (fun w3 =>
   some (.inr (some (iV 1), w3))) else none)
  else
  some (.inr (some (iV 0), w1))) else none := by
  rfl
set_option maxRecDepth 100000 in
theorem eX12_drawsDeed_0 (C : sC) (w : sW) (a0 : Int) : sg C mX12_drawsDeed 2000 0 [some (rV a0), none, none, none, none] [] w =
  if kd w a0 = 10 then
  bI (C 250 w [rV a0, iV 8]) (fun x2 w1 =>
  if kd w1 a0 = 10 then
  if kd w1 (gv w1 a0 14) = 20 ∧ 0 ≤ (0 : Int) ∧ (0 : Int) < ln w1 (gv w1 a0 14) then
  if kd w1 a0 = 10 then
  bI (C 250 w1 [rV a0, iV (gv w1 (gv w1 a0 14) 0)]) (fun x4 w3 =>
  if kd w3 a0 = 10 then
  bI (C 180 w3 [rV a0, iV x4]) (fun x6 w5 =>
  if kd w5 a0 = 10 then
  bI (C 250 w5 [rV a0, iV (w32 (x6 + 1))]) (fun x8 w7 =>
  if x2 < 3 then
   (if kd w7 a0 = 10 then
   bI (C 250 w7 [rV a0, iV 2]) (fun x10 w9 =>
   if kd w9 a0 = 10 then
   bI (C 251 w9 [rV a0, iV 0, iV x4, iV x8, iV x10]) (fun x12 w11 =>
   if x12 = 0 ∨ x12 = 1 then some (.inr (some (iV x12), w11)) else none) else none) else none)
  else
  if x2 = 3 then
   (if kd w7 a0 = 10 then
   bI (C 250 w7 [rV a0, iV 8]) (fun x14 w13 =>
   if kd w13 a0 = 10 then
   bI (C 251 w13 [rV a0, iV 2, iV x4, iV x8, iV (w32 (x14 + 1))]) (fun x16 w15 =>
   if x16 = 0 ∨ x16 = 1 then some (.inr (some (iV x16), w15)) else none) else none) else none)
  else
  if x2 < 6 then
   (if kd w7 a0 = 10 then
   bI (C 250 w7 [rV a0, iV 40]) (fun x18 w17 =>
   if kd w17 a0 = 10 then
   bI (C 251 w17 [rV a0, iV 3, iV x4, iV x8, iV (w32 (x18 + 1))]) (fun x20 w19 =>
   if x20 = 0 ∨ x20 = 1 then some (.inr (some (iV x20), w19)) else none) else none) else none)
  else
  if kd w7 a0 = 10 then
  if kd w7 (gv w7 a0 14) = 20 ∧ 0 ≤ (0 : Int) ∧ (0 : Int) < ln w7 (gv w7 a0 14) then
  if kd w7 a0 = 10 then
  bI (C 250 w7 [rV a0, iV (gv w7 (gv w7 a0 14) 0)]) (fun x22 w21 =>
  if x22 = x4 then
   (some (.inr (some (iV 0), w21)))
  else
  if x2 = 6 then
   (if kd w21 a0 = 10 then
   bI (C 251 w21 [rV a0, iV 4, iV x4, iV x8, iV x22]) (fun x24 w23 =>
   if x24 = 0 then
    (some (.inr (some (iV 0), w23)))
   else
   some (.inr (some (iV 1), w23))) else none)
  else
  if kd w21 a0 = 10 then
  bI (C 251 w21 [rV a0, iV 5, iV x4, iV x8, iV x22]) (fun x26 w25 =>
  if x26 = 0 then
   (some (.inr (some (iV 0), w25)))
  else
  some (.inr (some (iV 1), w25))) else none) else none else none else none) else none) else none) else none else none else none) else none := by
  rfl
set_option maxRecDepth 100000 in
theorem eX12_drawn_0 (C : sC) (w : sW) (a0 a1 a2 : Int) : sg C mX12_drawn 2000 0 [some (rV a0), some (iV a1), some (iV a2), none, none] [] w =
  if kd w a0 = 10 then
  wl (sv w a0 0 0) (fun w1 =>
  bI (C 155 w1 [iV a1, iV 1, iV 60]) (fun x3 w2 =>
  if x3 = 0 then
   (some (.inr (some (iV (-1)), w2)))
  else
  if kd w2 a0 = 10 then
  if kd w2 (gv w2 a0 14) = 20 ∧ 0 ≤ (0 : Int) ∧ (0 : Int) < ln w2 (gv w2 a0 14) then
  if (gv w2 (gv w2 a0 14) 0) = 0 then
   (some (.inr (some (iV 0), w2)))
  else
  if kd w2 a0 = 10 then
  if kd w2 a0 = 10 then
  bN (C 230 w2 [rV a0, rV (gv w2 a0 19), iV 0]) (fun w4 =>
  if kd w4 a0 = 10 then
  wl (sv w4 a0 29 a2) (fun w5 =>
  some (.inl (47, [some (rV a0), some (iV a1), none, some (iV 0), some (iV 0)], [], w5))) else none) else none else none else none else none)) else none := by
  rfl
set_option maxRecDepth 100000 in
theorem eX12_drawn_47 (C : sC) (w : sW) (a0 a1 a3 a4 : Int) : sg C mX12_drawn 2000 47 [some (rV a0), some (iV a1), none, some (iV a3), some (iV a4)] [] w =
  if a4 < a1 then
   (if kd w a0 = 10 then
   bI (C 252 w [rV a0]) (fun x2 w1 =>
   if x2 = 0 then
    (some (.inl (47, [some (rV a0), some (iV a1), none, some (iV a3), some (iV (w32 (a4 + 1)))], [], w1)))
   else
   some (.inl (47, [some (rV a0), some (iV a1), none, some (iV (w32 (a3 + 1))), some (iV (w32 (a4 + 1)))], [], w1))) else none)
  else
  if 0 < a3 then
   (if kd w a0 = 10 then
   bN (C 261 w [rV a0, iV 1]) (fun w3 =>
   some (.inr (some (iV a3), w3))) else none)
  else
  if kd w a0 = 10 then
  bN (C 261 w [rV a0, iV 0]) (fun w4 =>
  some (.inr (some (iV a3), w4))) else none := by
  rfl
set_option maxRecDepth 100000 in
theorem eX12_keep_0 (C : sC) (w : sW) (a0 a1 a2 : Int) : sg C mX12_keep 2000 0 [some (rV a0), some (iV a1), some (iV a2)] [] w =
  if a2 = 0 then
   (if a2 = 0 ∨ a2 = 1 then some (.inr (some (iV a2), w)) else none)
  else
  if kd w a0 = 10 then
  if kd w a0 = 10 then
  if (kd w (gv w a0 30) = 20 ∧ 32 ≤ (gv w a0 30)) ∧ 0 ≤ a1 ∧ a1 < ln w (gv w a0 30) then
  wl (sv w (gv w a0 30) a1 (gv w a0 13)) (fun w1 =>
  if a2 = 0 ∨ a2 = 1 then some (.inr (some (iV a2), w1)) else none) else none else none else none := by
  rfl
set_option maxRecDepth 100000 in
theorem eX12_readRowName_0 (C : sC) (w : sW) (a0 : Int) : sg C mX12_readRowName 2000 0 [some (rV a0)] [] w =
  if kd w a0 = 10 then
  bI (C 164 w [rV a0]) (fun x2 w1 =>
  if x2 = 0 then
   (if kd w1 a0 = 10 then
   bI (C 165 w1 [rV a0, iV 1]) (fun x4 w3 =>
   if x4 = 0 ∨ x4 = 1 then some (.inr (some (iV x4), w3)) else none) else none)
  else
  if kd w1 a0 = 10 then
  if kd w1 a0 = 10 then
  if kd w1 (gv w1 a0 14) = 20 ∧ 0 ≤ (0 : Int) ∧ (0 : Int) < ln w1 (gv w1 a0 14) then
  if kd w1 a0 = 10 then
  bI (C 171 w1 [rV (gv w1 a0 20), iV (gv w1 (gv w1 a0 14) 0), lV (gv w1 a0 12)]) (fun x6 w5 =>
  if kd w5 a0 = 10 then
  wl (sv w5 a0 13 x6) (fun w7 =>
  if kd w7 a0 = 10 then
  if (gv w7 a0 13) = (-1) then
   (if kd w7 a0 = 10 then
   bI (C 165 w7 [rV a0, iV 3]) (fun x9 w8 =>
   if x9 = 0 ∨ x9 = 1 then some (.inr (some (iV x9), w8)) else none) else none)
  else
  if kd w7 a0 = 10 then
  bN (C 159 w7 [rV a0]) (fun w10 =>
  some (.inr (some (iV 1), w10))) else none else none) else none) else none else none else none else none) else none := by
  rfl
set_option maxRecDepth 100000 in
theorem eX12_readOther_0 (C : sC) (w : sW) (a0 a1 : Int) : sg C mX12_readOther 2000 0 [some (rV a0), some (iV a1)] [] w =
  if kd w a0 = 10 then
  bI (C 164 w [rV a0]) (fun x2 w1 =>
  if x2 = 0 then
   (if kd w1 a0 = 10 then
   bI (C 165 w1 [rV a0, iV 1]) (fun x4 w3 =>
   if x4 = 0 ∨ x4 = 1 then some (.inr (some (iV x4), w3)) else none) else none)
  else
  if kd w1 a0 = 10 then
  if kd w1 a0 = 10 then
  if kd w1 a0 = 10 then
  if kd w1 (gv w1 a0 14) = 20 ∧ 0 ≤ (0 : Int) ∧ (0 : Int) < ln w1 (gv w1 a0 14) then
  if kd w1 a0 = 10 then
  bI (C 171 w1 [rV (gv w1 a0 20), iV (gv w1 (gv w1 a0 14) 0), lV (gv w1 a0 12)]) (fun x6 w5 =>
  if (kd w5 (gv w1 a0 30) = 20 ∧ 32 ≤ (gv w1 a0 30)) ∧ 0 ≤ (w32 (a1 + 3)) ∧ (w32 (a1 + 3)) < ln w5 (gv w1 a0 30) then
  wl (sv w5 (gv w1 a0 30) (w32 (a1 + 3)) x6) (fun w7 =>
  if kd w7 a0 = 10 then
  if kd w7 (gv w7 a0 30) = 20 ∧ 0 ≤ (w32 (a1 + 3)) ∧ (w32 (a1 + 3)) < ln w7 (gv w7 a0 30) then
  if (gv w7 (gv w7 a0 30) (w32 (a1 + 3))) = (-1) then
   (if kd w7 a0 = 10 then
   bI (C 165 w7 [rV a0, iV 3]) (fun x9 w8 =>
   if x9 = 0 ∨ x9 = 1 then some (.inr (some (iV x9), w8)) else none) else none)
  else
  if kd w7 a0 = 10 then
  if kd w7 (gv w7 a0 30) = 20 ∧ 0 ≤ (w32 (a1 + 3)) ∧ (w32 (a1 + 3)) < ln w7 (gv w7 a0 30) then
  if kd w7 a0 = 10 then
  if kd w7 (gv w7 a0 30) = 20 ∧ 0 ≤ (w32 (a1 + 1)) ∧ (w32 (a1 + 1)) < ln w7 (gv w7 a0 30) then
  if (gv w7 (gv w7 a0 30) (w32 (a1 + 3))) = (gv w7 (gv w7 a0 30) (w32 (a1 + 1))) then
   (if kd w7 a0 = 10 then
   bI (C 165 w7 [rV a0, iV 3]) (fun x11 w10 =>
   if x11 = 0 ∨ x11 = 1 then some (.inr (some (iV x11), w10)) else none) else none)
  else
  if kd w7 a0 = 10 then
  bN (C 159 w7 [rV a0]) (fun w12 =>
  some (.inr (some (iV 1), w12))) else none else none else none else none else none else none else none) else none) else none else none else none else none else none) else none := by
  rfl
set_option maxRecDepth 100000 in
theorem eX12_readBookLine_0 (C : sC) (w : sW) (a0 : Int) : sg C mX12_readBookLine 2000 0 [some (rV a0), none, none, none] [] w =
  some (.inl (4, [some (rV a0), some (iV (-1)), some (iV 0), none], [], w)) := by
  rfl
set_option maxRecDepth 100000 in
theorem eX12_readBookLine_4 (C : sC) (w : sW) (a0 a1 a2 : Int) : sg C mX12_readBookLine 2000 4 [some (rV a0), some (iV a1), some (iV a2), none] [] w =
  if 7 < a2 then
   (if a1 = (-1) then
    (if kd w a0 = 10 then
    bI (C 165 w [rV a0, iV 1]) (fun x2 w1 =>
    if x2 = 0 ∨ x2 = 1 then some (.inr (some (iV x2), w1)) else none) else none)
   else
   if kd w a0 = 10 then
   if (gv w a0 32) = 40 then
    (if kd w a0 = 10 then
    bI (C 165 w [rV a0, iV 4]) (fun x4 w3 =>
    if x4 = 0 ∨ x4 = 1 then some (.inr (some (iV x4), w3)) else none) else none)
   else
   if kd w a0 = 10 then
   if kd w a0 = 10 then
   if (kd w (gv w a0 30) = 20 ∧ 32 ≤ (gv w a0 30)) ∧ 0 ≤ (w32 (4 * (gv w a0 32))) ∧ (w32 (4 * (gv w a0 32))) < ln w (gv w a0 30) then
   wl (sv w (gv w a0 30) (w32 (4 * (gv w a0 32))) a1) (fun w5 =>
   if kd w5 a0 = 10 then
   if (kd w5 (gv w5 a0 30) = 20 ∧ 32 ≤ (gv w5 a0 30)) ∧ 0 ≤ (w32 ((w32 (4 * (gv w a0 32))) + 1)) ∧ (w32 ((w32 (4 * (gv w a0 32))) + 1)) < ln w5 (gv w5 a0 30) then
   wl (sv w5 (gv w5 a0 30) (w32 ((w32 (4 * (gv w a0 32))) + 1)) 0) (fun w6 =>
   if kd w6 a0 = 10 then
   if (kd w6 (gv w6 a0 30) = 20 ∧ 32 ≤ (gv w6 a0 30)) ∧ 0 ≤ (w32 ((w32 (4 * (gv w a0 32))) + 2)) ∧ (w32 ((w32 (4 * (gv w a0 32))) + 2)) < ln w6 (gv w6 a0 30) then
   wl (sv w6 (gv w6 a0 30) (w32 ((w32 (4 * (gv w a0 32))) + 2)) 0) (fun w7 =>
   if kd w7 a0 = 10 then
   bN (C 159 w7 [rV a0]) (fun w8 =>
   if a1 < 6 then
    (if kd w8 a0 = 10 then
    bI (C 255 w8 [rV a0]) (fun x10 w9 =>
    if kd w9 a0 = 10 then
    bI (C 254 w9 [rV a0, iV (w32 ((w32 (4 * (gv w a0 32))) + 1)), iV x10]) (fun x12 w11 =>
    if x12 = 0 then
     (some (.inr (some (iV 0), w11)))
    else
    if a1 = 4 then
     (some (.inl (137, [some (rV a0), some (iV a1), some (iV (w32 (4 * (gv w a0 32)))), none], [], w11)))
    else
    if kd w11 a0 = 10 then
    bI (C 166 w11 [rV a0, iV 0, iV 999]) (fun x14 w13 =>
    if kd w13 a0 = 10 then
    bI (C 254 w13 [rV a0, iV (w32 ((w32 (4 * (gv w a0 32))) + 2)), iV x14]) (fun x16 w15 =>
    if x16 = 0 then
     (some (.inr (some (iV 0), w15)))
    else
    some (.inl (137, [some (rV a0), some (iV a1), some (iV (w32 (4 * (gv w a0 32)))), none], [], w15))) else none) else none) else none) else none)
   else
   if a1 = 4 then
    (some (.inl (137, [some (rV a0), some (iV a1), some (iV (w32 (4 * (gv w a0 32)))), none], [], w8)))
   else
   if kd w8 a0 = 10 then
   bI (C 166 w8 [rV a0, iV 0, iV 999]) (fun x18 w17 =>
   if kd w17 a0 = 10 then
   bI (C 254 w17 [rV a0, iV (w32 ((w32 (4 * (gv w a0 32))) + 2)), iV x18]) (fun x20 w19 =>
   if x20 = 0 then
    (some (.inr (some (iV 0), w19)))
   else
   some (.inl (137, [some (rV a0), some (iV a1), some (iV (w32 (4 * (gv w a0 32)))), none], [], w19))) else none) else none) else none) else none else none) else none else none) else none else none else none else none)
  else
  if kd w a0 = 10 then
  bI (C 162 w [rV a0, iV (w32 (3 + a2))]) (fun x22 w21 =>
  if x22 = 0 then
   (some (.inl (4, [some (rV a0), some (iV a1), some (iV (w32 (a2 + 1))), none], [], w21)))
  else
  some (.inl (4, [some (rV a0), some (iV a2), some (iV (w32 (a2 + 1))), none], [], w21))) else none := by
  rfl
set_option maxRecDepth 100000 in
theorem eX12_readBookLine_137 (C : sC) (w : sW) (a0 a1 a2 : Int) : sg C mX12_readBookLine 2000 137 [some (rV a0), some (iV a1), some (iV a2), none] [] w =
  if a1 = 4 then
   (if kd w a0 = 10 then
   bI (C 256 w [rV a0, iV a2]) (fun x2 w1 =>
   if x2 = 0 then
    (some (.inr (some (iV 0), w1)))
   else
   if kd w1 a0 = 10 then
   bI (C 167 w1 [rV a0]) (fun x4 w3 =>
   if x4 = 0 then
    (some (.inr (some (iV 0), w3)))
   else
   some (.inr (some (iV 1), w3))) else none) else none)
  else
  if a1 = 5 then
   (if kd w a0 = 10 then
   bI (C 256 w [rV a0, iV a2]) (fun x6 w5 =>
   if x6 = 0 then
    (some (.inr (some (iV 0), w5)))
   else
   if kd w5 a0 = 10 then
   bI (C 167 w5 [rV a0]) (fun x8 w7 =>
   if x8 = 0 then
    (some (.inr (some (iV 0), w7)))
   else
   some (.inr (some (iV 1), w7))) else none) else none)
  else
  if a1 = 2 then
   (some (.inl (189, [some (rV a0), some (iV a1), some (iV a2), none], [iV 1], w)))
  else
  if a1 = 3 then
   (some (.inl (189, [some (rV a0), some (iV a1), some (iV a2), none], [iV 1], w)))
  else
  if a1 = 7 then
   (some (.inl (189, [some (rV a0), some (iV a1), some (iV a2), none], [iV 1], w)))
  else
  some (.inl (189, [some (rV a0), some (iV a1), some (iV a2), none], [iV 0], w)) := by
  rfl
set_option maxRecDepth 100000 in
theorem eX12_readBookLine_189 (C : sC) (w : sW) (a0 a1 a2 b0 : Int) : sg C mX12_readBookLine 2000 189 [some (rV a0), some (iV a1), some (iV a2), none] [iV b0] w =
  if b0 = 0 then
   (if a1 = 6 then
    (if kd w a0 = 10 then
    bI (C 166 w [rV a0, iV 0, iV 7]) (fun x2 w1 =>
    if kd w1 a0 = 10 then
    bI (C 254 w1 [rV a0, iV (w32 (a2 + 3)), iV x2]) (fun x4 w3 =>
    if x4 = 0 then
     (some (.inr (some (iV 0), w3)))
    else
    if kd w3 a0 = 10 then
    bI (C 167 w3 [rV a0]) (fun x6 w5 =>
    if x6 = 0 then
     (some (.inr (some (iV 0), w5)))
    else
    some (.inr (some (iV 1), w5))) else none) else none) else none)
   else
   if kd w a0 = 10 then
   bI (C 166 w [rV a0, iV 0, iV 1]) (fun x8 w7 =>
   if kd w7 a0 = 10 then
   bI (C 254 w7 [rV a0, iV (w32 (a2 + 3)), iV x8]) (fun x10 w9 =>
   if x10 = 0 then
    (some (.inr (some (iV 0), w9)))
   else
   if kd w9 a0 = 10 then
   bI (C 167 w9 [rV a0]) (fun x12 w11 =>
   if x12 = 0 then
    (some (.inr (some (iV 0), w11)))
   else
   some (.inr (some (iV 1), w11))) else none) else none) else none)
  else
  if kd w a0 = 10 then
  bI (C 166 w [rV a0, iV 1, iV 600]) (fun x14 w13 =>
  if kd w13 a0 = 10 then
  bI (C 254 w13 [rV a0, iV (w32 (a2 + 3)), iV x14]) (fun x16 w15 =>
  if x16 = 0 then
   (some (.inr (some (iV 0), w15)))
  else
  if kd w15 a0 = 10 then
  bI (C 167 w15 [rV a0]) (fun x18 w17 =>
  if x18 = 0 then
   (some (.inr (some (iV 0), w17)))
  else
  some (.inr (some (iV 1), w17))) else none) else none) else none := by
  rfl
set_option maxRecDepth 100000 in
theorem eX12_goBy_0 (C : sC) (w : sW) (a0 a1 : Int) : sg C mX12_goBy 2000 0 [some (rV a0), some (iV a1), none, none] [] w =
  if kd w a0 = 10 then
  if kd w (gv w a0 30) = 20 ∧ 0 ≤ a1 ∧ a1 < ln w (gv w a0 30) then
  if kd w a0 = 10 then
  if kd w (gv w a0 30) = 20 ∧ 0 ≤ (w32 (a1 + 1)) ∧ (w32 (a1 + 1)) < ln w (gv w a0 30) then
  if kd w a0 = 10 then
  if kd w (gv w a0 30) = 20 ∧ 0 ≤ (w32 (a1 + 2)) ∧ (w32 (a1 + 2)) < ln w (gv w a0 30) then
  if kd w a0 = 10 then
  if kd w (gv w a0 30) = 20 ∧ 0 ≤ (w32 (a1 + 3)) ∧ (w32 (a1 + 3)) < ln w (gv w a0 30) then
  if kd w a0 = 10 then
  bI (C 235 w [rV a0, iV (gv w (gv w a0 30) a1), iV (gv w (gv w a0 30) (w32 (a1 + 1))), iV (gv w (gv w a0 30) (w32 (a1 + 2))), iV (gv w (gv w a0 30) (w32 (a1 + 3)))]) (fun x2 w1 =>
  if x2 = 0 then
   (if kd w1 a0 = 10 then
   if kd w1 (gv w1 a0 30) = 20 ∧ 0 ≤ (w32 (a1 + 1)) ∧ (w32 (a1 + 1)) < ln w1 (gv w1 a0 30) then
   if kd w1 a0 = 10 then
   if kd w1 (gv w1 a0 30) = 20 ∧ 0 ≤ (w32 (a1 + 2)) ∧ (w32 (a1 + 2)) < ln w1 (gv w1 a0 30) then
   if kd w1 a0 = 10 then
   if kd w1 (gv w1 a0 30) = 20 ∧ 0 ≤ (w32 (a1 + 3)) ∧ (w32 (a1 + 3)) < ln w1 (gv w1 a0 30) then
   if kd w1 a0 = 10 then
   bN (C 236 w1 [rV a0, iV (gv w (gv w a0 30) a1), iV (gv w1 (gv w1 a0 30) (w32 (a1 + 1))), iV (gv w1 (gv w1 a0 30) (w32 (a1 + 2))), iV (gv w1 (gv w1 a0 30) (w32 (a1 + 3)))]) (fun w3 =>
   some (.inr (some (iV 0), w3))) else none else none else none else none else none else none else none)
  else
  some (.inr (some (iV (w32 ((w32 (10 * (gv w (gv w a0 30) a1))) + x2))), w1))) else none else none else none else none else none else none else none else none else none := by
  rfl
set_option maxRecDepth 100000 in
theorem eX12_allBits_0 (C : sC) (w : sW) (a0 : Int) : sg C mX12_allBits 2000 0 [some (rV a0), none, none] [] w =
  some (.inl (4, [some (rV a0), some (iV 0), some (iV 0)], [], w)) := by
  rfl
set_option maxRecDepth 100000 in
theorem eX12_allBits_4 (C : sC) (w : sW) (a0 a1 a2 : Int) : sg C mX12_allBits 2000 4 [some (rV a0), some (iV a1), some (iV a2)] [] w =
  if kd w a0 = 10 then
  if kd w (gv w a0 14) = 20 ∧ 0 ≤ (0 : Int) ∧ (0 : Int) < ln w (gv w a0 14) then
  if a2 < (gv w (gv w a0 14) 0) then
   (if kd w a0 = 10 then
   bI (C 180 w [rV a0, iV a2]) (fun x2 w1 =>
   some (.inl (4, [some (rV a0), some (iV (w32 (a1 + x2))), some (iV (w32 (a2 + 1)))], [], w1))) else none)
  else
  some (.inr (some (iV a1), w)) else none else none := by
  rfl
set_option maxRecDepth 100000 in
theorem eX12_book_0 (C : sC) (w : sW) (a0 a1 : Int) : sg C mX12_book 2000 0 [some (rV a0), some (iV a1), none, none] [] w =
  if kd w a0 = 10 then
  wl (sv w a0 0 0) (fun w1 =>
  bI (C 155 w1 [iV a1, iV 0, iV 1]) (fun x3 w2 =>
  if x3 = 0 then
   (some (.inr (some (iV (-1000)), w2)))
  else
  if kd w2 a0 = 10 then
  bN (C 168 w2 [rV a0, iV 400]) (fun w4 =>
  if kd w4 a0 = 10 then
  wl (sv w4 a0 32 0) (fun w5 =>
  some (.inl (30, [some (rV a0), some (iV a1), none, none], [], w5))) else none) else none)) else none := by
  rfl
set_option maxRecDepth 100000 in
theorem eX12_book_30 (C : sC) (w : sW) (a0 a1 : Int) : sg C mX12_book 2000 30 [some (rV a0), some (iV a1), none, none] [] w =
  if kd w a0 = 10 then
  if (gv w a0 7) = 0 then
   (if kd w a0 = 10 then
   if kd w a0 = 10 then
   bN (C 230 w [rV a0, rV (gv w a0 19), iV 0]) (fun w1 =>
   some (.inl (78, [some (rV a0), some (iV a1), some (iV 0), some (iV 0)], [], w1))) else none else none)
  else
  if kd w a0 = 10 then
  bI (C 257 w [rV a0]) (fun x3 w2 =>
  if x3 = 0 then
   (if kd w2 a0 = 10 then
   some (.inr (some (iV (w32 ((-2) - (gv w2 a0 11)))), w2)) else none)
  else
  if kd w2 a0 = 10 then
  if kd w2 a0 = 10 then
  wl (sv w2 a0 32 (w32 ((gv w2 a0 32) + 1))) (fun w4 =>
  some (.inl (30, [some (rV a0), some (iV a1), none, none], [], w4))) else none else none) else none else none := by
  rfl
set_option maxRecDepth 100000 in
theorem eX12_book_78 (C : sC) (w : sW) (a0 a1 a2 a3 : Int) : sg C mX12_book 2000 78 [some (rV a0), some (iV a1), some (iV a2), some (iV a3)] [] w =
  if kd w a0 = 10 then
  if a2 < (gv w a0 32) then
   (if a3 = 0 then
    (if kd w a0 = 10 then
    bI (C 258 w [rV a0, iV (w32 (4 * a2))]) (fun x2 w1 =>
    if x2 = 0 then
     (some (.inl (78, [some (rV a0), some (iV a1), some (iV (w32 (a2 + 1))), some (iV x2)], [], w1)))
    else
    some (.inl (78, [some (rV a0), some (iV a1), some (iV a2), some (iV x2)], [], w1))) else none)
   else
   if kd w a0 = 10 then
   if (kd w (gv w a0 31) = 20 ∧ 32 ≤ (gv w a0 31)) ∧ 0 ≤ (0 : Int) ∧ (0 : Int) < ln w (gv w a0 31) then
   wl (sv w (gv w a0 31) 0 a3) (fun w3 =>
   if kd w3 a0 = 10 then
   if (kd w3 (gv w3 a0 31) = 20 ∧ 32 ≤ (gv w3 a0 31)) ∧ 0 ≤ (1 : Int) ∧ (1 : Int) < ln w3 (gv w3 a0 31) then
   wl (sv w3 (gv w3 a0 31) 1 a2) (fun w4 =>
   if kd w4 a0 = 10 then
   if kd w4 a0 = 10 then
   bI (C 259 w4 [rV a0]) (fun x6 w5 =>
   if (kd w5 (gv w4 a0 31) = 20 ∧ 32 ≤ (gv w4 a0 31)) ∧ 0 ≤ (2 : Int) ∧ (2 : Int) < ln w5 (gv w4 a0 31) then
   wl (sv w5 (gv w4 a0 31) 2 x6) (fun w7 =>
   if kd w7 a0 = 10 then
   if kd w7 a0 = 10 then
   if kd w7 (gv w7 a0 14) = 20 ∧ 0 ≤ (2615 : Int) ∧ (2615 : Int) < ln w7 (gv w7 a0 14) then
   if (kd w7 (gv w7 a0 31) = 20 ∧ 32 ≤ (gv w7 a0 31)) ∧ 0 ≤ (3 : Int) ∧ (3 : Int) < ln w7 (gv w7 a0 31) then
   wl (sv w7 (gv w7 a0 31) 3 (gv w7 (gv w7 a0 14) 2615)) (fun w8 =>
   if kd w8 a0 = 10 ∧ ((1 : Int) = 0 ∨ (1 : Int) = 1) then
   wl (sv w8 a0 33 1) (fun w9 =>
   if a1 = 1 then
    (if 0 < a2 then
     (if kd w9 a0 = 10 then
     bN (C 261 w9 [rV a0, iV 1]) (fun w10 =>
     if a3 = 0 then
      (some (.inr (some (iV (-1)), w10)))
     else
     some (.inr (some (iV a2), w10))) else none)
    else
    if kd w9 a0 = 10 then
    bN (C 261 w9 [rV a0, iV 0]) (fun w11 =>
    if a3 = 0 then
     (some (.inr (some (iV (-1)), w11)))
    else
    some (.inr (some (iV a2), w11))) else none)
   else
   if kd w9 a0 = 10 then
   bN (C 261 w9 [rV a0, iV 0]) (fun w12 =>
   if a3 = 0 then
    (some (.inr (some (iV (-1)), w12)))
   else
   some (.inr (some (iV a2), w12))) else none) else none) else none else none else none else none) else none) else none else none) else none else none) else none else none)
  else
  if kd w a0 = 10 then
  if (kd w (gv w a0 31) = 20 ∧ 32 ≤ (gv w a0 31)) ∧ 0 ≤ (0 : Int) ∧ (0 : Int) < ln w (gv w a0 31) then
  wl (sv w (gv w a0 31) 0 a3) (fun w13 =>
  if kd w13 a0 = 10 then
  if (kd w13 (gv w13 a0 31) = 20 ∧ 32 ≤ (gv w13 a0 31)) ∧ 0 ≤ (1 : Int) ∧ (1 : Int) < ln w13 (gv w13 a0 31) then
  wl (sv w13 (gv w13 a0 31) 1 a2) (fun w14 =>
  if kd w14 a0 = 10 then
  if kd w14 a0 = 10 then
  bI (C 259 w14 [rV a0]) (fun x16 w15 =>
  if (kd w15 (gv w14 a0 31) = 20 ∧ 32 ≤ (gv w14 a0 31)) ∧ 0 ≤ (2 : Int) ∧ (2 : Int) < ln w15 (gv w14 a0 31) then
  wl (sv w15 (gv w14 a0 31) 2 x16) (fun w17 =>
  if kd w17 a0 = 10 then
  if kd w17 a0 = 10 then
  if kd w17 (gv w17 a0 14) = 20 ∧ 0 ≤ (2615 : Int) ∧ (2615 : Int) < ln w17 (gv w17 a0 14) then
  if (kd w17 (gv w17 a0 31) = 20 ∧ 32 ≤ (gv w17 a0 31)) ∧ 0 ≤ (3 : Int) ∧ (3 : Int) < ln w17 (gv w17 a0 31) then
  wl (sv w17 (gv w17 a0 31) 3 (gv w17 (gv w17 a0 14) 2615)) (fun w18 =>
  if kd w18 a0 = 10 ∧ ((1 : Int) = 0 ∨ (1 : Int) = 1) then
  wl (sv w18 a0 33 1) (fun w19 =>
  if a1 = 1 then
   (if 0 < a2 then
    (if kd w19 a0 = 10 then
    bN (C 261 w19 [rV a0, iV 1]) (fun w20 =>
    if a3 = 0 then
     (some (.inr (some (iV (-1)), w20)))
    else
    some (.inr (some (iV a2), w20))) else none)
   else
   if kd w19 a0 = 10 then
   bN (C 261 w19 [rV a0, iV 0]) (fun w21 =>
   if a3 = 0 then
    (some (.inr (some (iV (-1)), w21)))
   else
   some (.inr (some (iV a2), w21))) else none)
  else
  if kd w19 a0 = 10 then
  bN (C 261 w19 [rV a0, iV 0]) (fun w22 =>
  if a3 = 0 then
   (some (.inr (some (iV (-1)), w22)))
  else
  some (.inr (some (iV a2), w22))) else none) else none) else none else none else none else none) else none) else none else none) else none else none) else none else none else none := by
  rfl
set_option maxRecDepth 100000 in
theorem eX12_stay_0 (C : sC) (w : sW) (a0 a1 : Int) : sg C mX12_stay 2000 0 [some (rV a0), some (iV a1)] [] w =
  if kd w a0 = 10 then
  if kd w a0 = 10 then
  bN (C 230 w [rV a0, rV (gv w a0 18), iV 0]) (fun w1 =>
  if kd w1 a0 = 10 then
  if kd w1 a0 = 10 then
  bN (C 231 w1 [rV a0, rV (gv w1 a0 19), iV 0]) (fun w2 =>
  if a1 = 0 then
   (some (.inr (none, w2)))
  else
  if kd w2 a0 = 10 then
  bN (C 232 w2 [rV a0]) (fun w3 =>
  if kd w3 a0 = 10 then
  if kd w3 a0 = 10 then
  bN (C 231 w3 [rV a0, rV (gv w3 a0 18), iV 0]) (fun w4 =>
  some (.inr (none, w4))) else none else none) else none) else none else none) else none else none := by
  rfl
set_option maxRecDepth 100000 in
theorem eX12_told_0 (C : sC) (w : sW) (a0 a1 : Int) : sg C mX12_told 2000 0 [some (rV a0), some (iV a1)] [] w =
  if kd w a0 = 10 then
  wl (sv w a0 0 0) (fun w1 =>
  if kd w1 a0 = 10 then
  if (gv w1 a0 33) = 0 then
   (some (.inr (some (iV (-1)), w1)))
  else
  bI (C 155 w1 [iV a1, iV 0, iV 3]) (fun x3 w2 =>
  if x3 = 0 then
   (some (.inr (some (iV (-1)), w2)))
  else
  if kd w2 a0 = 10 then
  if kd w2 (gv w2 a0 31) = 20 ∧ 0 ≤ a1 ∧ a1 < ln w2 (gv w2 a0 31) then
  some (.inr (some (iV (gv w2 (gv w2 a0 31) a1)), w2)) else none else none) else none) else none := by
  rfl
set_option maxRecDepth 100000 in
theorem eX12_beginsWith_0 (C : sC) (w : sW) (a0 a1 a2 : Int) : sg C mX12_beginsWith 2000 0 [some (rV a0), some (iV a1), some (iV a2)] [] w =
  if kd w a0 = 10 then
  bI (C 180 w [rV a0, iV a2]) (fun x2 w1 =>
  if kd w1 a0 = 10 then
  bI (C 180 w1 [rV a0, iV a1]) (fun x4 w3 =>
  if x4 < x2 then
   (some (.inr (some (iV 0), w3)))
  else
  if kd w3 a0 = 10 then
  bI (C 214 w3 [rV a0, iV a1, iV a2]) (fun x6 w5 =>
  if kd w5 a0 = 10 then
  bI (C 180 w5 [rV a0, iV a2]) (fun x8 w7 =>
  if x6 = x8 then
   (some (.inr (some (iV 1), w7)))
  else
  some (.inr (some (iV 0), w7))) else none) else none) else none) else none := by
  rfl
set_option maxRecDepth 100000 in
theorem eX12_onesOf_0 (C : sC) (w : sW) (a0 a1 : Int) : sg C mX12_onesOf 2000 0 [some (rV a0), some (iV a1)] [] w =
  if kd w a0 = 10 then
  bI (C 180 w [rV a0, iV a1]) (fun x2 w1 =>
  if kd w1 a0 = 10 then
  bI (C 191 w1 [rV a0, iV a1, iV 0, iV x2]) (fun x4 w3 =>
  some (.inr (some (iV x4), w3))) else none) else none := by
  rfl
set_option maxRecDepth 100000 in
theorem eX12_saysOne_0 (C : sC) (w : sW) (a0 a1 a2 a3 a4 : Int) : sg C mX12_saysOne 2000 0 [some (rV a0), some (iV a1), some (iV a2), some (iV a3), some (iV a4), none] [] w =
  if kd w a0 = 10 then
  if kd w a0 = 10 then
  if (kd w (gv w a0 34) = 20 ∧ 32 ≤ (gv w a0 34)) ∧ 0 ≤ (w32 (4 * (gv w a0 35))) ∧ (w32 (4 * (gv w a0 35))) < ln w (gv w a0 34) then
  wl (sv w (gv w a0 34) (w32 (4 * (gv w a0 35))) a1) (fun w1 =>
  if kd w1 a0 = 10 then
  if (kd w1 (gv w1 a0 34) = 20 ∧ 32 ≤ (gv w1 a0 34)) ∧ 0 ≤ (w32 ((w32 (4 * (gv w a0 35))) + 1)) ∧ (w32 ((w32 (4 * (gv w a0 35))) + 1)) < ln w1 (gv w1 a0 34) then
  wl (sv w1 (gv w1 a0 34) (w32 ((w32 (4 * (gv w a0 35))) + 1)) a2) (fun w2 =>
  if kd w2 a0 = 10 then
  if (kd w2 (gv w2 a0 34) = 20 ∧ 32 ≤ (gv w2 a0 34)) ∧ 0 ≤ (w32 ((w32 (4 * (gv w a0 35))) + 2)) ∧ (w32 ((w32 (4 * (gv w a0 35))) + 2)) < ln w2 (gv w2 a0 34) then
  wl (sv w2 (gv w2 a0 34) (w32 ((w32 (4 * (gv w a0 35))) + 2)) a3) (fun w3 =>
  if kd w3 a0 = 10 then
  if (kd w3 (gv w3 a0 34) = 20 ∧ 32 ≤ (gv w3 a0 34)) ∧ 0 ≤ (w32 ((w32 (4 * (gv w a0 35))) + 3)) ∧ (w32 ((w32 (4 * (gv w a0 35))) + 3)) < ln w3 (gv w3 a0 34) then
  wl (sv w3 (gv w3 a0 34) (w32 ((w32 (4 * (gv w a0 35))) + 3)) a4) (fun w4 =>
  if kd w4 a0 = 10 then
  if kd w4 a0 = 10 then
  wl (sv w4 a0 35 (w32 ((gv w4 a0 35) + 1))) (fun w5 =>
  if kd w5 a0 = 10 then
  some (.inr (some (iV (w32 ((gv w5 a0 35) - 1))), w5)) else none) else none else none) else none else none) else none else none) else none else none) else none else none else none := by
  rfl
set_option maxRecDepth 100000 in
theorem eX12_readOr_0 (C : sC) (w : sW) (a0 : Int) : sg C mX12_readOr 2000 0 [some (rV a0), none] [] w =
  if kd w a0 = 10 then
  bI (C 267 w [rV a0]) (fun x2 w1 =>
  if x2 = 0 then
   (some (.inr (some (iV 0), w1)))
  else
  if kd w1 a0 = 10 then
  some (.inl (14, [some (rV a0), some (iV (gv w1 a0 38))], [], w1)) else none) else none := by
  rfl
set_option maxRecDepth 100000 in
theorem eX12_readOr_14 (C : sC) (w : sW) (a0 a1 : Int) : sg C mX12_readOr 2000 14 [some (rV a0), some (iV a1)] [] w =
  if kd w a0 = 10 then
  bI (C 162 w [rV a0, iV 11]) (fun x2 w1 =>
  if x2 = 0 then
   (if kd w1 a0 = 10 then
   wl (sv w1 a0 38 a1) (fun w3 =>
   some (.inr (some (iV 1), w3))) else none)
  else
  if kd w1 a0 = 10 then
  bN (C 159 w1 [rV a0]) (fun w4 =>
  if kd w4 a0 = 10 then
  bI (C 267 w4 [rV a0]) (fun x6 w5 =>
  if x6 = 0 then
   (some (.inr (some (iV 0), w5)))
  else
  if kd w5 a0 = 10 then
  if kd w5 a0 = 10 then
  bI (C 265 w5 [rV a0, iV 3, iV a1, iV (gv w5 a0 38), iV 0]) (fun x8 w7 =>
  some (.inl (14, [some (rV a0), some (iV x8)], [], w7))) else none else none) else none) else none) else none := by
  rfl
set_option maxRecDepth 100000 in
theorem eX12_readAnd_0 (C : sC) (w : sW) (a0 : Int) : sg C mX12_readAnd 2000 0 [some (rV a0), none] [] w =
  if kd w a0 = 10 then
  bI (C 268 w [rV a0]) (fun x2 w1 =>
  if x2 = 0 then
   (some (.inr (some (iV 0), w1)))
  else
  if kd w1 a0 = 10 then
  some (.inl (14, [some (rV a0), some (iV (gv w1 a0 38))], [], w1)) else none) else none := by
  rfl
set_option maxRecDepth 100000 in
theorem eX12_readAnd_14 (C : sC) (w : sW) (a0 a1 : Int) : sg C mX12_readAnd 2000 14 [some (rV a0), some (iV a1)] [] w =
  if kd w a0 = 10 then
  bI (C 162 w [rV a0, iV 12]) (fun x2 w1 =>
  if x2 = 0 then
   (if kd w1 a0 = 10 then
   wl (sv w1 a0 38 a1) (fun w3 =>
   some (.inr (some (iV 1), w3))) else none)
  else
  if kd w1 a0 = 10 then
  bN (C 159 w1 [rV a0]) (fun w4 =>
  if kd w4 a0 = 10 then
  bI (C 268 w4 [rV a0]) (fun x6 w5 =>
  if x6 = 0 then
   (some (.inr (some (iV 0), w5)))
  else
  if kd w5 a0 = 10 then
  if kd w5 a0 = 10 then
  bI (C 265 w5 [rV a0, iV 2, iV a1, iV (gv w5 a0 38), iV 0]) (fun x8 w7 =>
  some (.inl (14, [some (rV a0), some (iV x8)], [], w7))) else none else none) else none) else none) else none := by
  rfl
set_option maxRecDepth 100000 in
theorem eX12_readSaid_0 (C : sC) (w : sW) (a0 : Int) : sg C mX12_readSaid 2000 0 [some (rV a0), none, none, none] [] w =
  if kd w a0 = 10 then
  bI (C 163 w [rV a0, iV 40]) (fun x2 w1 =>
  some (.inl (10, [some (rV a0), some (iV x2), some (iV 13), none], [], w1))) else none := by
  rfl
set_option maxRecDepth 100000 in
theorem eX12_readSaid_10 (C : sC) (w : sW) (a0 a1 a2 : Int) : sg C mX12_readSaid 2000 10 [some (rV a0), some (iV a1), some (iV a2), none] [] w =
  if 22 < a2 then
   (if a1 = 0 then
    (if 22 < a2 then
     (if kd w a0 = 10 then
     bI (C 165 w [rV a0, iV 1]) (fun x2 w1 =>
     if x2 = 0 ∨ x2 = 1 then some (.inr (some (iV x2), w1)) else none) else none)
    else
    some (.inl (46, [some (rV a0), some (iV a1), some (iV a2), none], [], w)))
   else
   some (.inl (46, [some (rV a0), some (iV a1), some (iV a2), none], [], w)))
  else
  if kd w a0 = 10 then
  bI (C 162 w [rV a0, iV a2]) (fun x4 w3 =>
  if x4 = 0 then
   (some (.inl (10, [some (rV a0), some (iV a1), some (iV (w32 (a2 + 1))), none], [], w3)))
  else
  if a1 = 0 then
   (if 22 < a2 then
    (if kd w3 a0 = 10 then
    bI (C 165 w3 [rV a0, iV 1]) (fun x6 w5 =>
    if x6 = 0 ∨ x6 = 1 then some (.inr (some (iV x6), w5)) else none) else none)
   else
   some (.inl (46, [some (rV a0), some (iV a1), some (iV a2), none], [], w3)))
  else
  some (.inl (46, [some (rV a0), some (iV a1), some (iV a2), none], [], w3))) else none := by
  rfl
set_option maxRecDepth 100000 in
theorem eX12_readSaid_46 (C : sC) (w : sW) (a0 a1 a2 : Int) : sg C mX12_readSaid 2000 46 [some (rV a0), some (iV a1), some (iV a2), none] [] w =
  if kd w a0 = 10 then
  if (gv w a0 36) = 20 then
   (if kd w a0 = 10 then
   bI (C 165 w [rV a0, iV 4]) (fun x2 w1 =>
   if x2 = 0 ∨ x2 = 1 then some (.inr (some (iV x2), w1)) else none) else none)
  else
  if kd w a0 = 10 then
  if (gv w a0 37) = 8 then
   (if kd w a0 = 10 then
   bI (C 165 w [rV a0, iV 4]) (fun x4 w3 =>
   if x4 = 0 ∨ x4 = 1 then some (.inr (some (iV x4), w3)) else none) else none)
  else
  if kd w a0 = 10 then
  if kd w a0 = 10 then
  wl (sv w a0 36 (w32 ((gv w a0 36) + 1))) (fun w5 =>
  if kd w5 a0 = 10 then
  if kd w5 a0 = 10 then
  wl (sv w5 a0 37 (w32 ((gv w5 a0 37) + 1))) (fun w6 =>
  if kd w6 a0 = 10 then
  bN (C 159 w6 [rV a0]) (fun w7 =>
  if a1 = 0 then
   (if a2 = 13 then
    (if kd w7 a0 = 10 then
    bI (C 269 w7 [rV a0]) (fun x9 w8 =>
    if kd w8 a0 = 10 then
    if kd w8 a0 = 10 then
    wl (sv w8 a0 37 (w32 ((gv w8 a0 37) - 1))) (fun w10 =>
    if x9 = 0 ∨ x9 = 1 then some (.inr (some (iV x9), w10)) else none) else none else none) else none)
   else
   if a2 < 16 then
    (if kd w7 a0 = 10 then
    bI (C 265 w7 [rV a0, iV (w32 (50 + a2)), iV 0, iV 0, iV 0]) (fun x12 w11 =>
    if kd w11 a0 = 10 then
    wl (sv w11 a0 38 x12) (fun w13 =>
    if kd w13 a0 = 10 then
    if kd w13 a0 = 10 then
    wl (sv w13 a0 37 (w32 ((gv w13 a0 37) - 1))) (fun w14 =>
    some (.inr (some (iV 1), w14))) else none else none) else none) else none)
   else
   if a2 < 18 then
    (if kd w7 a0 = 10 then
    bI (C 271 w7 [rV a0, iV a2]) (fun x16 w15 =>
    if kd w15 a0 = 10 then
    if kd w15 a0 = 10 then
    wl (sv w15 a0 37 (w32 ((gv w15 a0 37) - 1))) (fun w17 =>
    if x16 = 0 ∨ x16 = 1 then some (.inr (some (iV x16), w17)) else none) else none else none) else none)
   else
   if kd w7 a0 = 10 then
   bI (C 272 w7 [rV a0, iV a2]) (fun x19 w18 =>
   if kd w18 a0 = 10 then
   if kd w18 a0 = 10 then
   wl (sv w18 a0 37 (w32 ((gv w18 a0 37) - 1))) (fun w20 =>
   if x19 = 0 ∨ x19 = 1 then some (.inr (some (iV x19), w20)) else none) else none else none) else none)
  else
  if kd w7 a0 = 10 then
  bI (C 270 w7 [rV a0]) (fun x22 w21 =>
  if kd w21 a0 = 10 then
  if kd w21 a0 = 10 then
  wl (sv w21 a0 37 (w32 ((gv w21 a0 37) - 1))) (fun w23 =>
  if x22 = 0 ∨ x22 = 1 then some (.inr (some (iV x22), w23)) else none) else none else none) else none) else none) else none else none) else none else none else none else none := by
  rfl
set_option maxRecDepth 100000 in
theorem eX12_readNot_0 (C : sC) (w : sW) (a0 : Int) : sg C mX12_readNot 2000 0 [some (rV a0)] [] w =
  if kd w a0 = 10 then
  bI (C 268 w [rV a0]) (fun x2 w1 =>
  if x2 = 0 then
   (some (.inr (some (iV 0), w1)))
  else
  if kd w1 a0 = 10 then
  if kd w1 a0 = 10 then
  bI (C 265 w1 [rV a0, iV 1, iV (gv w1 a0 38), iV 0, iV 0]) (fun x4 w3 =>
  if kd w3 a0 = 10 then
  wl (sv w3 a0 38 x4) (fun w5 =>
  some (.inr (some (iV 1), w5))) else none) else none else none) else none := by
  rfl
set_option maxRecDepth 100000 in
theorem eX12_readBracket_0 (C : sC) (w : sW) (a0 : Int) : sg C mX12_readBracket 2000 0 [some (rV a0)] [] w =
  if kd w a0 = 10 then
  bI (C 266 w [rV a0]) (fun x2 w1 =>
  if x2 = 0 then
   (some (.inr (some (iV 0), w1)))
  else
  if kd w1 a0 = 10 then
  bI (C 163 w1 [rV a0, iV 41]) (fun x4 w3 =>
  if x4 = 0 then
   (if kd w3 a0 = 10 then
   bI (C 165 w3 [rV a0, iV 1]) (fun x6 w5 =>
   if x6 = 0 ∨ x6 = 1 then some (.inr (some (iV x6), w5)) else none) else none)
  else
  if kd w3 a0 = 10 then
  bN (C 159 w3 [rV a0]) (fun w7 =>
  some (.inr (some (iV 1), w7))) else none) else none) else none := by
  rfl
set_option maxRecDepth 100000 in
theorem eX12_readOf_0 (C : sC) (w : sW) (a0 a1 : Int) : sg C mX12_readOf 2000 0 [some (rV a0), some (iV a1)] [] w =
  if kd w a0 = 10 then
  bI (C 255 w [rV a0]) (fun x2 w1 =>
  if x2 = 0 then
   (some (.inr (some (iV 0), w1)))
  else
  if kd w1 a0 = 10 then
  if kd w1 a0 = 10 then
  bI (C 265 w1 [rV a0, iV (w32 (50 + a1)), iV (gv w1 a0 13), iV 0, iV 0]) (fun x4 w3 =>
  if kd w3 a0 = 10 then
  wl (sv w3 a0 38 x4) (fun w5 =>
  some (.inr (some (iV 1), w5))) else none) else none else none) else none := by
  rfl
set_option maxRecDepth 100000 in
theorem eX12_readCompare_0 (C : sC) (w : sW) (a0 a1 : Int) : sg C mX12_readCompare 2000 0 [some (rV a0), some (iV a1), none] [] w =
  if kd w a0 = 10 then
  bI (C 163 w [rV a0, iV 60]) (fun x2 w1 =>
  if x2 = 0 then
   (if kd w1 a0 = 10 then
   bI (C 163 w1 [rV a0, iV 61]) (fun x4 w3 =>
   if x4 = 0 then
    (if kd w3 a0 = 10 then
    bI (C 163 w3 [rV a0, iV 62]) (fun x6 w5 =>
    if x6 = 0 then
     (if kd w5 a0 = 10 then
     bI (C 165 w5 [rV a0, iV 1]) (fun x8 w7 =>
     if x8 = 0 ∨ x8 = 1 then some (.inr (some (iV x8), w7)) else none) else none)
    else
    some (.inl (33, [some (rV a0), some (iV a1), none], [], w5))) else none)
   else
   some (.inl (33, [some (rV a0), some (iV a1), none], [], w3))) else none)
  else
  some (.inl (33, [some (rV a0), some (iV a1), none], [], w1))) else none := by
  rfl
set_option maxRecDepth 100000 in
theorem eX12_readCompare_33 (C : sC) (w : sW) (a0 a1 : Int) : sg C mX12_readCompare 2000 33 [some (rV a0), some (iV a1), none] [] w =
  if kd w a0 = 10 then
  if kd w a0 = 10 then
  bN (C 159 w [rV a0]) (fun w1 =>
  if kd w1 a0 = 10 then
  bI (C 166 w1 [rV a0, iV 0, iV 999]) (fun x3 w2 =>
  if x3 = 0 then
   (some (.inr (some (iV 0), w2)))
  else
  if kd w2 a0 = 10 then
  if kd w2 a0 = 10 then
  bI (C 265 w2 [rV a0, iV (w32 (50 + a1)), iV 0, iV (gv w2 a0 13), iV (gv w a0 9)]) (fun x5 w4 =>
  if kd w4 a0 = 10 then
  wl (sv w4 a0 38 x5) (fun w6 =>
  some (.inr (some (iV 1), w6))) else none) else none else none) else none) else none else none := by
  rfl
set_option maxRecDepth 100000 in
theorem eX12_sentence_0 (C : sC) (w : sW) (a0 : Int) : sg C mX12_sentence 2000 0 [some (rV a0), none] [] w =
  if kd w a0 = 10 then
  bN (C 168 w [rV a0, iV 200]) (fun w1 =>
  if kd w1 a0 = 10 then
  wl (sv w1 a0 35 0) (fun w2 =>
  if kd w2 a0 = 10 then
  wl (sv w2 a0 36 0) (fun w3 =>
  if kd w3 a0 = 10 then
  wl (sv w3 a0 37 0) (fun w4 =>
  if kd w4 a0 = 10 then
  bI (C 266 w4 [rV a0]) (fun x6 w5 =>
  if x6 = 0 then
   (if kd w5 a0 = 10 then
   some (.inr (some (iV (w32 ((-1) - (gv w5 a0 11)))), w5)) else none)
  else
  if kd w5 a0 = 10 then
  if (gv w5 a0 7) = 0 then
   (if kd w5 a0 = 10 then
   if (kd w5 (gv w5 a0 14) = 20 ∧ 32 ≤ (gv w5 a0 14)) ∧ 0 ≤ (5820 : Int) ∧ (5820 : Int) < ln w5 (gv w5 a0 14) then
   wl (sv w5 (gv w5 a0 14) 5820 1) (fun w7 =>
   if kd w7 a0 = 10 then
   if kd w7 a0 = 10 then
   if (kd w7 (gv w7 a0 14) = 20 ∧ 32 ≤ (gv w7 a0 14)) ∧ 0 ≤ (5821 : Int) ∧ (5821 : Int) < ln w7 (gv w7 a0 14) then
   wl (sv w7 (gv w7 a0 14) 5821 (gv w7 a0 38)) (fun w8 =>
   some (.inl (79, [some (rV a0), some (iV 0)], [], w8))) else none else none else none) else none else none)
  else
  if kd w5 a0 = 10 then
  bI (C 165 w5 [rV a0, iV 1]) (fun x10 w9 =>
  if kd w9 a0 = 10 then
  some (.inr (some (iV (w32 ((-1) - (gv w9 a0 11)))), w9)) else none) else none else none) else none) else none) else none) else none) else none := by
  rfl
set_option maxRecDepth 100000 in
theorem eX12_sentence_79 (C : sC) (w : sW) (a0 a1 : Int) : sg C mX12_sentence 2000 79 [some (rV a0), some (iV a1)] [] w =
  if a1 < 240 then
   (if kd w a0 = 10 then
   if kd w a0 = 10 then
   if kd w (gv w a0 34) = 20 ∧ 0 ≤ a1 ∧ a1 < ln w (gv w a0 34) then
   if (kd w (gv w a0 14) = 20 ∧ 32 ≤ (gv w a0 14)) ∧ 0 ≤ (w32 (5822 + a1)) ∧ (w32 (5822 + a1)) < ln w (gv w a0 14) then
   wl (sv w (gv w a0 14) (w32 (5822 + a1)) (gv w (gv w a0 34) a1)) (fun w1 =>
   some (.inl (79, [some (rV a0), some (iV (w32 (a1 + 1)))], [], w1))) else none else none else none else none)
  else
  if kd w a0 = 10 then
  some (.inr (some (iV (gv w a0 36)), w)) else none := by
  rfl
set_option maxRecDepth 100000 in
theorem eX12_holds_0 (C : sC) (w : sW) (a0 a1 a2 : Int) : sg C mX12_holds 2000 0 [some (rV a0), some (iV a1), some (iV a2), none, none, none, none, none] [] w =
  if kd w a0 = 10 then
  if kd w (gv w a0 14) = 20 ∧ 0 ≤ (w32 ((w32 (5822 + (w32 (4 * a1)))) + 1)) ∧ (w32 ((w32 (5822 + (w32 (4 * a1)))) + 1)) < ln w (gv w a0 14) then
  if kd w a0 = 10 then
  if kd w (gv w a0 14) = 20 ∧ 0 ≤ (w32 ((w32 (5822 + (w32 (4 * a1)))) + 2)) ∧ (w32 ((w32 (5822 + (w32 (4 * a1)))) + 2)) < ln w (gv w a0 14) then
  if kd w a0 = 10 then
  if kd w (gv w a0 14) = 20 ∧ 0 ≤ (w32 (5822 + (w32 (4 * a1)))) ∧ (w32 (5822 + (w32 (4 * a1)))) < ln w (gv w a0 14) then
  if (gv w (gv w a0 14) (w32 (5822 + (w32 (4 * a1))))) = 1 then
   (if kd w a0 = 10 then
   bI (C 274 w [rV a0, iV (gv w (gv w a0 14) (w32 ((w32 (5822 + (w32 (4 * a1)))) + 1))), iV a2]) (fun x2 w1 =>
   if x2 = 0 then
    (some (.inr (some (iV 1), w1)))
   else
   some (.inr (some (iV 0), w1))) else none)
  else if (gv w (gv w a0 14) (w32 (5822 + (w32 (4 * a1))))) = 2 then
   (if kd w a0 = 10 then
   bI (C 274 w [rV a0, iV (gv w (gv w a0 14) (w32 ((w32 (5822 + (w32 (4 * a1)))) + 1))), iV a2]) (fun x4 w3 =>
   if x4 = 0 then
    (some (.inr (some (iV 0), w3)))
   else
   if kd w3 a0 = 10 then
   bI (C 274 w3 [rV a0, iV (gv w (gv w a0 14) (w32 ((w32 (5822 + (w32 (4 * a1)))) + 2))), iV a2]) (fun x6 w5 =>
   if x6 = 0 then
    (some (.inr (some (iV 0), w5)))
   else
   some (.inr (some (iV 1), w5))) else none) else none)
  else if (gv w (gv w a0 14) (w32 (5822 + (w32 (4 * a1))))) = 3 then
   (if kd w a0 = 10 then
   bI (C 274 w [rV a0, iV (gv w (gv w a0 14) (w32 ((w32 (5822 + (w32 (4 * a1)))) + 1))), iV a2]) (fun x8 w7 =>
   if x8 = 0 then
    (if kd w7 a0 = 10 then
    bI (C 274 w7 [rV a0, iV (gv w (gv w a0 14) (w32 ((w32 (5822 + (w32 (4 * a1)))) + 2))), iV a2]) (fun x10 w9 =>
    if x10 = 0 then
     (some (.inr (some (iV 0), w9)))
    else
    some (.inr (some (iV 1), w9))) else none)
   else
   some (.inr (some (iV 1), w7))) else none)
  else if (gv w (gv w a0 14) (w32 (5822 + (w32 (4 * a1))))) = 64 then
   (if kd w a0 = 10 then
   bI (C 180 w [rV a0, iV a2]) (fun x12 w11 =>
   if x12 = 0 then
    (some (.inr (some (iV 1), w11)))
   else
   some (.inr (some (iV 0), w11))) else none)
  else if (gv w (gv w a0 14) (w32 (5822 + (w32 (4 * a1))))) = 65 then
   (if kd w a0 = 10 then
   bI (C 264 w [rV a0, iV a2]) (fun x14 w13 =>
   if (2 : Int) = 0 then none else
   if (Int.tmod x14 2) = 0 then
    (some (.inr (some (iV 1), w13)))
   else
   some (.inr (some (iV 0), w13))) else none)
  else if (gv w (gv w a0 14) (w32 (5822 + (w32 (4 * a1))))) = 66 then
   (if kd w a0 = 10 then
   bI (C 216 w [rV a0, iV a2, iV (gv w (gv w a0 14) (w32 ((w32 (5822 + (w32 (4 * a1)))) + 1)))]) (fun x16 w15 =>
   if x16 = 0 ∨ x16 = 1 then some (.inr (some (iV x16), w15)) else none) else none)
  else if (gv w (gv w a0 14) (w32 (5822 + (w32 (4 * a1))))) = 67 then
   (if kd w a0 = 10 then
   bI (C 263 w [rV a0, iV a2, iV (gv w (gv w a0 14) (w32 ((w32 (5822 + (w32 (4 * a1)))) + 1)))]) (fun x18 w17 =>
   if x18 = 0 ∨ x18 = 1 then some (.inr (some (iV x18), w17)) else none) else none)
  else if kd w a0 = 10 then
  if kd w (gv w a0 14) = 20 ∧ 0 ≤ (w32 (5822 + (w32 (4 * a1)))) ∧ (w32 (5822 + (w32 (4 * a1)))) < ln w (gv w a0 14) then
  if (w32 ((gv w (gv w a0 14) (w32 (5822 + (w32 (4 * a1))))) - 50)) = 18 then
   (if kd w a0 = 10 then
   bI (C 180 w [rV a0, iV a2]) (fun x20 w19 =>
   if kd w19 a0 = 10 then
   if kd w19 (gv w19 a0 14) = 20 ∧ 0 ≤ (w32 ((w32 (5822 + (w32 (4 * a1)))) + 3)) ∧ (w32 ((w32 (5822 + (w32 (4 * a1)))) + 3)) < ln w19 (gv w19 a0 14) then
   if (gv w19 (gv w19 a0 14) (w32 ((w32 (5822 + (w32 (4 * a1)))) + 3))) = 60 then
    (if x20 < (gv w (gv w a0 14) (w32 ((w32 (5822 + (w32 (4 * a1)))) + 2))) then
     (some (.inr (some (iV 1), w19)))
    else
    some (.inr (some (iV 0), w19)))
   else
   if kd w19 a0 = 10 then
   if kd w19 (gv w19 a0 14) = 20 ∧ 0 ≤ (w32 ((w32 (5822 + (w32 (4 * a1)))) + 3)) ∧ (w32 ((w32 (5822 + (w32 (4 * a1)))) + 3)) < ln w19 (gv w19 a0 14) then
   if (gv w19 (gv w19 a0 14) (w32 ((w32 (5822 + (w32 (4 * a1)))) + 3))) = 61 then
    (if x20 = (gv w (gv w a0 14) (w32 ((w32 (5822 + (w32 (4 * a1)))) + 2))) then
     (some (.inr (some (iV 1), w19)))
    else
    some (.inr (some (iV 0), w19)))
   else
   if (gv w (gv w a0 14) (w32 ((w32 (5822 + (w32 (4 * a1)))) + 2))) < x20 then
    (some (.inr (some (iV 1), w19)))
   else
   some (.inr (some (iV 0), w19)) else none else none else none else none) else none)
  else
  if (w32 ((gv w (gv w a0 14) (w32 (5822 + (w32 (4 * a1))))) - 50)) = 19 then
   (if kd w a0 = 10 then
   bI (C 264 w [rV a0, iV a2]) (fun x22 w21 =>
   if kd w21 a0 = 10 then
   if kd w21 (gv w21 a0 14) = 20 ∧ 0 ≤ (w32 ((w32 (5822 + (w32 (4 * a1)))) + 3)) ∧ (w32 ((w32 (5822 + (w32 (4 * a1)))) + 3)) < ln w21 (gv w21 a0 14) then
   if (gv w21 (gv w21 a0 14) (w32 ((w32 (5822 + (w32 (4 * a1)))) + 3))) = 60 then
    (if x22 < (gv w (gv w a0 14) (w32 ((w32 (5822 + (w32 (4 * a1)))) + 2))) then
     (some (.inr (some (iV 1), w21)))
    else
    some (.inr (some (iV 0), w21)))
   else
   if kd w21 a0 = 10 then
   if kd w21 (gv w21 a0 14) = 20 ∧ 0 ≤ (w32 ((w32 (5822 + (w32 (4 * a1)))) + 3)) ∧ (w32 ((w32 (5822 + (w32 (4 * a1)))) + 3)) < ln w21 (gv w21 a0 14) then
   if (gv w21 (gv w21 a0 14) (w32 ((w32 (5822 + (w32 (4 * a1)))) + 3))) = 61 then
    (if x22 = (gv w (gv w a0 14) (w32 ((w32 (5822 + (w32 (4 * a1)))) + 2))) then
     (some (.inr (some (iV 1), w21)))
    else
    some (.inr (some (iV 0), w21)))
   else
   if (gv w (gv w a0 14) (w32 ((w32 (5822 + (w32 (4 * a1)))) + 2))) < x22 then
    (some (.inr (some (iV 1), w21)))
   else
   some (.inr (some (iV 0), w21)) else none else none else none else none) else none)
  else
  if (w32 ((gv w (gv w a0 14) (w32 (5822 + (w32 (4 * a1))))) - 50)) = 20 then
   (if kd w a0 = 10 then
   bI (C 197 w [rV a0, iV a2]) (fun x24 w23 =>
   if kd w23 a0 = 10 then
   if kd w23 (gv w23 a0 14) = 20 ∧ 0 ≤ (w32 ((w32 (5822 + (w32 (4 * a1)))) + 3)) ∧ (w32 ((w32 (5822 + (w32 (4 * a1)))) + 3)) < ln w23 (gv w23 a0 14) then
   if (gv w23 (gv w23 a0 14) (w32 ((w32 (5822 + (w32 (4 * a1)))) + 3))) = 60 then
    (if x24 < (gv w (gv w a0 14) (w32 ((w32 (5822 + (w32 (4 * a1)))) + 2))) then
     (some (.inr (some (iV 1), w23)))
    else
    some (.inr (some (iV 0), w23)))
   else
   if kd w23 a0 = 10 then
   if kd w23 (gv w23 a0 14) = 20 ∧ 0 ≤ (w32 ((w32 (5822 + (w32 (4 * a1)))) + 3)) ∧ (w32 ((w32 (5822 + (w32 (4 * a1)))) + 3)) < ln w23 (gv w23 a0 14) then
   if (gv w23 (gv w23 a0 14) (w32 ((w32 (5822 + (w32 (4 * a1)))) + 3))) = 61 then
    (if x24 = (gv w (gv w a0 14) (w32 ((w32 (5822 + (w32 (4 * a1)))) + 2))) then
     (some (.inr (some (iV 1), w23)))
    else
    some (.inr (some (iV 0), w23)))
   else
   if (gv w (gv w a0 14) (w32 ((w32 (5822 + (w32 (4 * a1)))) + 2))) < x24 then
    (some (.inr (some (iV 1), w23)))
   else
   some (.inr (some (iV 0), w23)) else none else none else none else none) else none)
  else
  if (w32 ((gv w (gv w a0 14) (w32 (5822 + (w32 (4 * a1))))) - 50)) = 21 then
   (if kd w a0 = 10 then
   if kd w (gv w a0 14) = 20 ∧ 0 ≤ (w32 (2611 + a2)) ∧ (w32 (2611 + a2)) < ln w (gv w a0 14) then
   if kd w a0 = 10 then
   if kd w (gv w a0 14) = 20 ∧ 0 ≤ (w32 ((w32 (5822 + (w32 (4 * a1)))) + 3)) ∧ (w32 ((w32 (5822 + (w32 (4 * a1)))) + 3)) < ln w (gv w a0 14) then
   if (gv w (gv w a0 14) (w32 ((w32 (5822 + (w32 (4 * a1)))) + 3))) = 60 then
    (if (gv w (gv w a0 14) (w32 (2611 + a2))) < (gv w (gv w a0 14) (w32 ((w32 (5822 + (w32 (4 * a1)))) + 2))) then
     (some (.inr (some (iV 1), w)))
    else
    some (.inr (some (iV 0), w)))
   else
   if kd w a0 = 10 then
   if kd w (gv w a0 14) = 20 ∧ 0 ≤ (w32 ((w32 (5822 + (w32 (4 * a1)))) + 3)) ∧ (w32 ((w32 (5822 + (w32 (4 * a1)))) + 3)) < ln w (gv w a0 14) then
   if (gv w (gv w a0 14) (w32 ((w32 (5822 + (w32 (4 * a1)))) + 3))) = 61 then
    (if (gv w (gv w a0 14) (w32 (2611 + a2))) = (gv w (gv w a0 14) (w32 ((w32 (5822 + (w32 (4 * a1)))) + 2))) then
     (some (.inr (some (iV 1), w)))
    else
    some (.inr (some (iV 0), w)))
   else
   if (gv w (gv w a0 14) (w32 ((w32 (5822 + (w32 (4 * a1)))) + 2))) < (gv w (gv w a0 14) (w32 (2611 + a2))) then
    (some (.inr (some (iV 1), w)))
   else
   some (.inr (some (iV 0), w)) else none else none else none else none else none else none)
  else
  if kd w a0 = 10 then
  if kd w (gv w a0 14) = 20 ∧ 0 ≤ (w32 ((w32 (5822 + (w32 (4 * a1)))) + 3)) ∧ (w32 ((w32 (5822 + (w32 (4 * a1)))) + 3)) < ln w (gv w a0 14) then
  if (gv w (gv w a0 14) (w32 ((w32 (5822 + (w32 (4 * a1)))) + 3))) = 60 then
   (if a2 < (gv w (gv w a0 14) (w32 ((w32 (5822 + (w32 (4 * a1)))) + 2))) then
    (some (.inr (some (iV 1), w)))
   else
   some (.inr (some (iV 0), w)))
  else
  if kd w a0 = 10 then
  if kd w (gv w a0 14) = 20 ∧ 0 ≤ (w32 ((w32 (5822 + (w32 (4 * a1)))) + 3)) ∧ (w32 ((w32 (5822 + (w32 (4 * a1)))) + 3)) < ln w (gv w a0 14) then
  if (gv w (gv w a0 14) (w32 ((w32 (5822 + (w32 (4 * a1)))) + 3))) = 61 then
   (if a2 = (gv w (gv w a0 14) (w32 ((w32 (5822 + (w32 (4 * a1)))) + 2))) then
    (some (.inr (some (iV 1), w)))
   else
   some (.inr (some (iV 0), w)))
  else
  if (gv w (gv w a0 14) (w32 ((w32 (5822 + (w32 (4 * a1)))) + 2))) < a2 then
   (some (.inr (some (iV 1), w)))
  else
  some (.inr (some (iV 0), w)) else none else none else none else none else none else none else none else none else none else none else none else none := by
  rfl
set_option maxRecDepth 100000 in
theorem eX12_said_0 (C : sC) (w : sW) (a0 a1 : Int) : sg C mX12_said 2000 0 [some (rV a0), some (iV a1), none, none] [] w =
  if kd w a0 = 10 then
  wl (sv w a0 0 0) (fun w1 =>
  if kd w1 a0 = 10 then
  if kd w1 (gv w1 a0 14) = 20 ∧ 0 ≤ (5820 : Int) ∧ (5820 : Int) < ln w1 (gv w1 a0 14) then
  if (gv w1 (gv w1 a0 14) 5820) = 0 then
   (some (.inr (some (iV (-1)), w1)))
  else
  some (.inl (22, [some (rV a0), some (iV a1), some (iV 0), some (iV 0)], [], w1)) else none else none) else none := by
  rfl
set_option maxRecDepth 100000 in
theorem eX12_said_22 (C : sC) (w : sW) (a0 a1 a2 a3 : Int) : sg C mX12_said 2000 22 [some (rV a0), some (iV a1), some (iV a2), some (iV a3)] [] w =
  if kd w a0 = 10 then
  if kd w (gv w a0 14) = 20 ∧ 0 ≤ (0 : Int) ∧ (0 : Int) < ln w (gv w a0 14) then
  if a3 < (gv w (gv w a0 14) 0) then
   (if kd w a0 = 10 then
   if kd w (gv w a0 14) = 20 ∧ 0 ≤ (5821 : Int) ∧ (5821 : Int) < ln w (gv w a0 14) then
   if kd w a0 = 10 then
   bI (C 274 w [rV a0, iV (gv w (gv w a0 14) 5821), iV a3]) (fun x2 w1 =>
   if x2 = 0 then
    (some (.inl (22, [some (rV a0), some (iV a1), some (iV a2), some (iV (w32 (a3 + 1)))], [], w1)))
   else
   if a2 = a1 then
    (some (.inr (some (iV a3), w1)))
   else
   some (.inl (22, [some (rV a0), some (iV a1), some (iV (w32 (a2 + 1))), some (iV (w32 (a3 + 1)))], [], w1))) else none else none else none)
  else
  if a1 = (-1) then
   (some (.inr (some (iV a2), w)))
  else
  some (.inr (some (iV (-1)), w)) else none else none := by
  rfl
set_option maxRecDepth 100000 in
theorem eX12_image_0 (C : sC) (w : sW) (a0 a1 : Int) : sg C mX12_image 2000 0 [some (rV a0), some (iV a1), none] [] w =
  if kd w a0 = 10 then
  wl (sv w a0 0 0) (fun w1 =>
  bI (C 155 w1 [iV a1, iV 0, iV 1]) (fun x3 w2 =>
  if x3 = 0 then
   (some (.inr (some (iV 0), w2)))
  else
  some (.inl (18, [some (rV a0), some (iV a1), some (iV 0)], [], w2)))) else none := by
  rfl
set_option maxRecDepth 100000 in
theorem eX12_image_18 (C : sC) (w : sW) (a0 a1 a2 : Int) : sg C mX12_image 2000 18 [some (rV a0), some (iV a1), some (iV a2)] [] w =
  if a2 < 6062 then
   (if kd w a0 = 10 then
   if kd w a0 = 10 then
   if kd w (gv w a0 14) = 20 ∧ 0 ≤ a2 ∧ a2 < ln w (gv w a0 14) then
   if (kd w (gv w a0 16) = 20 ∧ 32 ≤ (gv w a0 16)) ∧ 0 ≤ (w32 ((w32 (6062 * a1)) + a2)) ∧ (w32 ((w32 (6062 * a1)) + a2)) < ln w (gv w a0 16) then
   wl (sv w (gv w a0 16) (w32 ((w32 (6062 * a1)) + a2)) (gv w (gv w a0 14) a2)) (fun w1 =>
   some (.inl (18, [some (rV a0), some (iV a1), some (iV (w32 (a2 + 1)))], [], w1))) else none else none else none else none)
  else
  some (.inl (51, [some (rV a0), some (iV a1), some (iV 0)], [], w)) := by
  rfl
set_option maxRecDepth 100000 in
theorem eX12_image_51 (C : sC) (w : sW) (a0 a1 a2 : Int) : sg C mX12_image 2000 51 [some (rV a0), some (iV a1), some (iV a2)] [] w =
  if a2 < 4 then
   (if kd w a0 = 10 then
   if kd w a0 = 10 then
   if kd w (gv w a0 20) = 22 ∧ 0 ≤ a2 ∧ a2 < ln w (gv w a0 20) then
   if kd w (gv w a0 22) = 22 ∧ 0 ≤ (w32 ((w32 (4 * a1)) + a2)) ∧ (w32 ((w32 (4 * a1)) + a2)) < ln w (gv w a0 22) then
   wl (sv w (gv w a0 22) (w32 ((w32 (4 * a1)) + a2)) (gv w (gv w a0 20) a2)) (fun w1 =>
   some (.inl (51, [some (rV a0), some (iV a1), some (iV (w32 (a2 + 1)))], [], w1))) else none else none else none else none)
  else
  if kd w a0 = 10 then
  if ((kd w (gv w a0 23) = 21 ∧ -128 ≤ (1 : Int) ∧ (1 : Int) < 128) ∨ (kd w (gv w a0 23) = 23 ∧ ((1 : Int) = 0 ∨ (1 : Int) = 1))) ∧ 0 ≤ a1 ∧ a1 < ln w (gv w a0 23) then
  wl (sv w (gv w a0 23) a1 1) (fun w2 =>
  some (.inr (some (iV 1), w2))) else none else none := by
  rfl
set_option maxRecDepth 100000 in
theorem eX12_restore_0 (C : sC) (w : sW) (a0 a1 : Int) : sg C mX12_restore 2000 0 [some (rV a0), some (iV a1), none] [] w =
  if kd w a0 = 10 then
  wl (sv w a0 0 0) (fun w1 =>
  bI (C 155 w1 [iV a1, iV 0, iV 1]) (fun x3 w2 =>
  if x3 = 0 then
   (some (.inr (some (iV 0), w2)))
  else
  if kd w2 a0 = 10 then
  if (kd w2 (gv w2 a0 23) = 21 ∨ kd w2 (gv w2 a0 23) = 23) ∧ 0 ≤ a1 ∧ a1 < ln w2 (gv w2 a0 23) then
  if (gv w2 (gv w2 a0 23) a1) = 0 then
   (some (.inr (some (iV 0), w2)))
  else
  some (.inl (27, [some (rV a0), some (iV a1), some (iV 0)], [], w2)) else none else none)) else none := by
  rfl
set_option maxRecDepth 100000 in
theorem eX12_restore_27 (C : sC) (w : sW) (a0 a1 a2 : Int) : sg C mX12_restore 2000 27 [some (rV a0), some (iV a1), some (iV a2)] [] w =
  if a2 < 6062 then
   (if kd w a0 = 10 then
   if kd w a0 = 10 then
   if kd w (gv w a0 16) = 20 ∧ 0 ≤ (w32 ((w32 (6062 * a1)) + a2)) ∧ (w32 ((w32 (6062 * a1)) + a2)) < ln w (gv w a0 16) then
   if (kd w (gv w a0 14) = 20 ∧ 32 ≤ (gv w a0 14)) ∧ 0 ≤ a2 ∧ a2 < ln w (gv w a0 14) then
   wl (sv w (gv w a0 14) a2 (gv w (gv w a0 16) (w32 ((w32 (6062 * a1)) + a2)))) (fun w1 =>
   some (.inl (27, [some (rV a0), some (iV a1), some (iV (w32 (a2 + 1)))], [], w1))) else none else none else none else none)
  else
  some (.inl (60, [some (rV a0), some (iV a1), some (iV 0)], [], w)) := by
  rfl
set_option maxRecDepth 100000 in
theorem eX12_restore_60 (C : sC) (w : sW) (a0 a1 a2 : Int) : sg C mX12_restore 2000 60 [some (rV a0), some (iV a1), some (iV a2)] [] w =
  if a2 < 4 then
   (if kd w a0 = 10 then
   if kd w a0 = 10 then
   if kd w (gv w a0 22) = 22 ∧ 0 ≤ (w32 ((w32 (4 * a1)) + a2)) ∧ (w32 ((w32 (4 * a1)) + a2)) < ln w (gv w a0 22) then
   if kd w (gv w a0 20) = 22 ∧ 0 ≤ a2 ∧ a2 < ln w (gv w a0 20) then
   wl (sv w (gv w a0 20) a2 (gv w (gv w a0 22) (w32 ((w32 (4 * a1)) + a2)))) (fun w1 =>
   some (.inl (60, [some (rV a0), some (iV a1), some (iV (w32 (a2 + 1)))], [], w1))) else none else none else none else none)
  else
  if kd w a0 = 10 then
  wl (sv w a0 24 0) (fun w2 =>
  some (.inr (some (iV 1), w2))) else none := by
  rfl
set_option maxRecDepth 100000 in
theorem eX12_total_0 (C : sC) (w : sW) (a0 a1 : Int) : sg C mX12_total 2000 0 [some (rV a0), some (iV a1)] [] w =
  if kd w a0 = 10 then
  wl (sv w a0 0 0) (fun w1 =>
  if a1 = 0 then
   (if kd w1 a0 = 10 then
   if kd w1 (gv w1 a0 14) = 20 ∧ 0 ≤ (0 : Int) ∧ (0 : Int) < ln w1 (gv w1 a0 14) then
   some (.inr (some (iV (gv w1 (gv w1 a0 14) 0)), w1)) else none else none)
  else if a1 = 1 then
   (if kd w1 a0 = 10 then
   if kd w1 (gv w1 a0 14) = 20 ∧ 0 ≤ (1 : Int) ∧ (1 : Int) < ln w1 (gv w1 a0 14) then
   some (.inr (some (iV (gv w1 (gv w1 a0 14) 1)), w1)) else none else none)
  else if a1 = 2 then
   (if kd w1 a0 = 10 then
   bI (C 259 w1 [rV a0]) (fun x3 w2 =>
   some (.inr (some (iV x3), w2))) else none)
  else if a1 = 3 then
   (if kd w1 a0 = 10 then
   some (.inr (some (iV (gv w1 a0 2)), w1)) else none)
  else some (.inr (some (iV (-1)), w1))) else none := by
  rfl
end
section
set_option maxRecDepth 100000 in
theorem eL_law_0 (C : sC) (w : sW) (a0 : Int) : sg C mL_law 2000 0 [some (rV a0), none, none, none, none, none, none] [] w =
  wl (al w 9 0 15) (fun w1 =>
  if kd w1 (nx w) = 9 then
  bN (C 95 w1 [rV (nx w)]) (fun w2 =>
  wl (al w2 10 0 39) (fun w3 =>
  if kd w3 (nx w2) = 10 then
  bN (C 169 w3 [rV (nx w2)]) (fun w4 =>
  if 0 ≤ (1 : Int) ∧ (1 : Int) ≤ 100000 then
  wl (al w4 22 1 (Int.toNat 1)) (fun w5 =>
  some (.inl (23, [some (rV a0), some (rV (nx w)), some (rV (nx w2)), some (rV (nx w4)), some (iV 0), none, none], [], w5))) else none) else none)) else none) := by
  rfl
set_option maxRecDepth 100000 in
theorem eL_law_23 (C : sC) (w : sW) (a0 a1 a2 a3 a4 : Int) : sg C mL_law 2000 23 [some (rV a0), some (rV a1), some (rV a2), some (rV a3), some (iV a4), none, none] [] w =
  if 20 ≤ kd w a0 ∧ kd w a0 ≤ 27 then
  if (w32 ((ln w a0) - 6)) < a4 then
   (some (.inr (some (iV 1), w)))
  else
  if kd w a0 = 20 ∧ 0 ≤ a4 ∧ a4 < ln w a0 then
  if (f_iand (gv w a0 a4) 63) = 0 then
   (some (.inl (240, [some (rV a0), some (rV a1), some (rV a2), some (rV a3), some (iV a4), none, none], [], w)))
  else if (f_iand (gv w a0 a4) 63) = 1 then
   (some (.inl (313, [some (rV a0), some (rV a1), some (rV a2), some (rV a3), some (iV a4), none, none], [], w)))
  else if (f_iand (gv w a0 a4) 63) = 2 then
   (some (.inl (338, [some (rV a0), some (rV a1), some (rV a2), some (rV a3), some (iV a4), none, none], [], w)))
  else if (f_iand (gv w a0 a4) 63) = 3 then
   (some (.inl (351, [some (rV a0), some (rV a1), some (rV a2), some (rV a3), some (iV a4), none, none], [], w)))
  else if (f_iand (gv w a0 a4) 63) = 4 then
   (some (.inl (364, [some (rV a0), some (rV a1), some (rV a2), some (rV a3), some (iV a4), none, none], [], w)))
  else if (f_iand (gv w a0 a4) 63) = 5 then
   (some (.inl (389, [some (rV a0), some (rV a1), some (rV a2), some (rV a3), some (iV a4), none, none], [], w)))
  else if (f_iand (gv w a0 a4) 63) = 6 then
   (some (.inl (426, [some (rV a0), some (rV a1), some (rV a2), some (rV a3), some (iV a4), none, none], [], w)))
  else if (f_iand (gv w a0 a4) 63) = 7 then
   (some (.inl (475, [some (rV a0), some (rV a1), some (rV a2), some (rV a3), some (iV a4), none, none], [], w)))
  else if (f_iand (gv w a0 a4) 63) = 8 then
   (some (.inl (524, [some (rV a0), some (rV a1), some (rV a2), some (rV a3), some (iV a4), none, none], [], w)))
  else if (f_iand (gv w a0 a4) 63) = 9 then
   (some (.inl (573, [some (rV a0), some (rV a1), some (rV a2), some (rV a3), some (iV a4), none, none], [], w)))
  else if (f_iand (gv w a0 a4) 63) = 10 then
   (some (.inl (598, [some (rV a0), some (rV a1), some (rV a2), some (rV a3), some (iV a4), none, none], [], w)))
  else if (f_iand (gv w a0 a4) 63) = 11 then
   (some (.inl (635, [some (rV a0), some (rV a1), some (rV a2), some (rV a3), some (iV a4), none, none], [], w)))
  else if (f_iand (gv w a0 a4) 63) = 12 then
   (some (.inl (703, [some (rV a0), some (rV a1), some (rV a2), some (rV a3), some (iV a4), none, none], [], w)))
  else if (f_iand (gv w a0 a4) 63) = 13 then
   (some (.inl (728, [some (rV a0), some (rV a1), some (rV a2), some (rV a3), some (iV a4), none, none], [], w)))
  else if (f_iand (gv w a0 a4) 63) = 14 then
   (some (.inl (777, [some (rV a0), some (rV a1), some (rV a2), some (rV a3), some (iV a4), none, none], [], w)))
  else if (f_iand (gv w a0 a4) 63) = 15 then
   (some (.inl (814, [some (rV a0), some (rV a1), some (rV a2), some (rV a3), some (iV a4), none, none], [], w)))
  else if (f_iand (gv w a0 a4) 63) = 16 then
   (some (.inl (894, [some (rV a0), some (rV a1), some (rV a2), some (rV a3), some (iV a4), none, none], [], w)))
  else if (f_iand (gv w a0 a4) 63) = 17 then
   (some (.inl (950, [some (rV a0), some (rV a1), some (rV a2), some (rV a3), some (iV a4), none, none], [], w)))
  else if (f_iand (gv w a0 a4) 63) = 18 then
   (some (.inl (1018, [some (rV a0), some (rV a1), some (rV a2), some (rV a3), some (iV a4), none, none], [], w)))
  else if (f_iand (gv w a0 a4) 63) = 19 then
   (some (.inl (1055, [some (rV a0), some (rV a1), some (rV a2), some (rV a3), some (iV a4), none, none], [], w)))
  else if (f_iand (gv w a0 a4) 63) = 20 then
   (some (.inl (1092, [some (rV a0), some (rV a1), some (rV a2), some (rV a3), some (iV a4), none, none], [], w)))
  else if (f_iand (gv w a0 a4) 63) = 21 then
   (some (.inl (1117, [some (rV a0), some (rV a1), some (rV a2), some (rV a3), some (iV a4), none, none], [], w)))
  else if (f_iand (gv w a0 a4) 63) = 22 then
   (some (.inl (1142, [some (rV a0), some (rV a1), some (rV a2), some (rV a3), some (iV a4), none, none], [], w)))
  else if (f_iand (gv w a0 a4) 63) = 23 then
   (some (.inl (1191, [some (rV a0), some (rV a1), some (rV a2), some (rV a3), some (iV a4), none, none], [], w)))
  else if (f_iand (gv w a0 a4) 63) = 24 then
   (some (.inl (1240, [some (rV a0), some (rV a1), some (rV a2), some (rV a3), some (iV a4), none, none], [], w)))
  else if (f_iand (gv w a0 a4) 63) = 25 then
   (some (.inl (1289, [some (rV a0), some (rV a1), some (rV a2), some (rV a3), some (iV a4), none, none], [], w)))
  else if (f_iand (gv w a0 a4) 63) = 26 then
   (some (.inl (1338, [some (rV a0), some (rV a1), some (rV a2), some (rV a3), some (iV a4), none, none], [], w)))
  else if (f_iand (gv w a0 a4) 63) = 27 then
   (some (.inl (1375, [some (rV a0), some (rV a1), some (rV a2), some (rV a3), some (iV a4), none, none], [], w)))
  else if (f_iand (gv w a0 a4) 63) = 28 then
   (some (.inl (1412, [some (rV a0), some (rV a1), some (rV a2), some (rV a3), some (iV a4), none, none], [], w)))
  else if (f_iand (gv w a0 a4) 63) = 29 then
   (some (.inl (1461, [some (rV a0), some (rV a1), some (rV a2), some (rV a3), some (iV a4), none, none], [], w)))
  else if (f_iand (gv w a0 a4) 63) = 30 then
   (some (.inl (1474, [some (rV a0), some (rV a1), some (rV a2), some (rV a3), some (iV a4), none, none], [], w)))
  else if (f_iand (gv w a0 a4) 63) = 31 then
   (some (.inl (1499, [some (rV a0), some (rV a1), some (rV a2), some (rV a3), some (iV a4), none, none], [], w)))
  else if (f_iand (gv w a0 a4) 63) = 32 then
   (some (.inl (1536, [some (rV a0), some (rV a1), some (rV a2), some (rV a3), some (iV a4), none, none], [], w)))
  else if (f_iand (gv w a0 a4) 63) = 33 then
   (some (.inl (1573, [some (rV a0), some (rV a1), some (rV a2), some (rV a3), some (iV a4), none, none], [], w)))
  else if (f_iand (gv w a0 a4) 63) = 34 then
   (some (.inl (1622, [some (rV a0), some (rV a1), some (rV a2), some (rV a3), some (iV a4), none, none], [], w)))
  else if (f_iand (gv w a0 a4) 63) = 35 then
   (some (.inl (1659, [some (rV a0), some (rV a1), some (rV a2), some (rV a3), some (iV a4), none, none], [], w)))
  else if (f_iand (gv w a0 a4) 63) = 36 then
   (some (.inl (1696, [some (rV a0), some (rV a1), some (rV a2), some (rV a3), some (iV a4), none, none], [], w)))
  else if (f_iand (gv w a0 a4) 63) = 37 then
   (some (.inl (1733, [some (rV a0), some (rV a1), some (rV a2), some (rV a3), some (iV a4), none, none], [], w)))
  else if (f_iand (gv w a0 a4) 63) = 38 then
   (some (.inl (1746, [some (rV a0), some (rV a1), some (rV a2), some (rV a3), some (iV a4), none, none], [], w)))
  else if (f_iand (gv w a0 a4) 63) = 39 then
   (some (.inl (1783, [some (rV a0), some (rV a1), some (rV a2), some (rV a3), some (iV a4), none, none], [], w)))
  else if (f_iand (gv w a0 a4) 63) = 40 then
   (some (.inl (1808, [some (rV a0), some (rV a1), some (rV a2), some (rV a3), some (iV a4), none, none], [], w)))
  else if (f_iand (gv w a0 a4) 63) = 41 then
   (some (.inl (1833, [some (rV a0), some (rV a1), some (rV a2), some (rV a3), some (iV a4), none, none], [], w)))
  else if (f_iand (gv w a0 a4) 63) = 42 then
   (some (.inl (1846, [some (rV a0), some (rV a1), some (rV a2), some (rV a3), some (iV a4), none, none], [], w)))
  else if (f_iand (gv w a0 a4) 63) = 43 then
   (some (.inl (1871, [some (rV a0), some (rV a1), some (rV a2), some (rV a3), some (iV a4), none, none], [], w)))
  else if (f_iand (gv w a0 a4) 63) = 44 then
   (some (.inl (1896, [some (rV a0), some (rV a1), some (rV a2), some (rV a3), some (iV a4), none, none], [], w)))
  else if (f_iand (gv w a0 a4) 63) = 45 then
   (some (.inl (1921, [some (rV a0), some (rV a1), some (rV a2), some (rV a3), some (iV a4), none, none], [], w)))
  else some (.inl (1946, [some (rV a0), some (rV a1), some (rV a2), some (rV a3), some (iV a4), none, none], [], w)) else none else none := by
  rfl
set_option maxRecDepth 100000 in
theorem eL_law_240 (C : sC) (w : sW) (a0 a1 a2 a3 a4 : Int) : sg C mL_law 2000 240 [some (rV a0), some (rV a1), some (rV a2), some (rV a3), some (iV a4), none, none] [] w =
  if kd w a0 = 20 ∧ 0 ≤ (w32 (a4 + 1)) ∧ (w32 (a4 + 1)) < ln w a0 then
  if kd w a0 = 20 ∧ 0 ≤ (w32 (a4 + 2)) ∧ (w32 (a4 + 2)) < ln w a0 then
  if kd w a0 = 20 ∧ 0 ≤ (w32 (a4 + 3)) ∧ (w32 (a4 + 3)) < ln w a0 then
  if kd w a0 = 20 ∧ 0 ≤ (w32 (a4 + 4)) ∧ (w32 (a4 + 4)) < ln w a0 then
  if kd w a0 = 20 ∧ 0 ≤ (w32 (a4 + 5)) ∧ (w32 (a4 + 5)) < ln w a0 then
  if kd w a1 = 9 then
  bI (C 96 w [rV a1, iV (gv w a0 (w32 (a4 + 1))), iV (gv w a0 (w32 (a4 + 2))), iV (gv w a0 (w32 (a4 + 3))), iV (gv w a0 (w32 (a4 + 4))), iV (gv w a0 (w32 (a4 + 5)))]) (fun x2 w1 =>
  if kd w1 a0 = 20 ∧ 0 ≤ (w32 (a4 + 1)) ∧ (w32 (a4 + 1)) < ln w1 a0 then
  if kd w1 a0 = 20 ∧ 0 ≤ (w32 (a4 + 2)) ∧ (w32 (a4 + 2)) < ln w1 a0 then
  if kd w1 a0 = 20 ∧ 0 ≤ (w32 (a4 + 3)) ∧ (w32 (a4 + 3)) < ln w1 a0 then
  if kd w1 a0 = 20 ∧ 0 ≤ (w32 (a4 + 4)) ∧ (w32 (a4 + 4)) < ln w1 a0 then
  if kd w1 a0 = 20 ∧ 0 ≤ (w32 (a4 + 5)) ∧ (w32 (a4 + 5)) < ln w1 a0 then
  if kd w1 a2 = 10 then
  bI (C 152 w1 [rV a2, iV (gv w1 a0 (w32 (a4 + 1))), iV (gv w1 a0 (w32 (a4 + 2))), iV (gv w1 a0 (w32 (a4 + 3))), iV (gv w1 a0 (w32 (a4 + 4))), iV (gv w1 a0 (w32 (a4 + 5)))]) (fun x4 w3 =>
  if x2 = x4 then
   (some (.inl (1946, [some (rV a0), some (rV a1), some (rV a2), some (rV a3), some (iV a4), none, none], [], w3)))
  else
  some (.inr (some (iV 0), w3))) else none else none else none else none else none else none) else none else none else none else none else none else none := by
  rfl
set_option maxRecDepth 100000 in
theorem eL_law_313 (C : sC) (w : sW) (a0 a1 a2 a3 a4 : Int) : sg C mL_law 2000 313 [some (rV a0), some (rV a1), some (rV a2), some (rV a3), some (iV a4), none, none] [] w =
  if kd w a0 = 20 ∧ 0 ≤ (w32 (a4 + 1)) ∧ (w32 (a4 + 1)) < ln w a0 then
  if kd w a1 = 9 then
  bI (C 98 w [rV a1, iV (gv w a0 (w32 (a4 + 1)))]) (fun x2 w1 =>
  if kd w1 a0 = 20 ∧ 0 ≤ (w32 (a4 + 1)) ∧ (w32 (a4 + 1)) < ln w1 a0 then
  if kd w1 a2 = 10 then
  bI (C 153 w1 [rV a2, iV (gv w1 a0 (w32 (a4 + 1)))]) (fun x4 w3 =>
  if x2 = x4 then
   (some (.inl (1946, [some (rV a0), some (rV a1), some (rV a2), some (rV a3), some (iV a4), none, none], [], w3)))
  else
  some (.inr (some (iV 0), w3))) else none else none) else none else none := by
  rfl
set_option maxRecDepth 100000 in
theorem eL_law_338 (C : sC) (w : sW) (a0 a1 a2 a3 a4 : Int) : sg C mL_law 2000 338 [some (rV a0), some (rV a1), some (rV a2), some (rV a3), some (iV a4), none, none] [] w =
  if kd w a1 = 9 then
  bI (C 99 w [rV a1]) (fun x2 w1 =>
  if kd w1 a2 = 10 then
  bI (C 178 w1 [rV a2]) (fun x4 w3 =>
  if x2 = x4 then
   (some (.inl (1946, [some (rV a0), some (rV a1), some (rV a2), some (rV a3), some (iV a4), none, none], [], w3)))
  else
  some (.inr (some (iV 0), w3))) else none) else none := by
  rfl
set_option maxRecDepth 100000 in
theorem eL_law_351 (C : sC) (w : sW) (a0 a1 a2 a3 a4 : Int) : sg C mL_law 2000 351 [some (rV a0), some (rV a1), some (rV a2), some (rV a3), some (iV a4), none, none] [] w =
  if kd w a1 = 9 then
  bI (C 102 w [rV a1]) (fun x2 w1 =>
  if kd w1 a2 = 10 then
  bI (C 179 w1 [rV a2]) (fun x4 w3 =>
  if x2 = x4 then
   (some (.inl (1946, [some (rV a0), some (rV a1), some (rV a2), some (rV a3), some (iV a4), none, none], [], w3)))
  else
  some (.inr (some (iV 0), w3))) else none) else none := by
  rfl
set_option maxRecDepth 100000 in
theorem eL_law_364 (C : sC) (w : sW) (a0 a1 a2 a3 a4 : Int) : sg C mL_law 2000 364 [some (rV a0), some (rV a1), some (rV a2), some (rV a3), some (iV a4), none, none] [] w =
  if kd w a0 = 20 ∧ 0 ≤ (w32 (a4 + 1)) ∧ (w32 (a4 + 1)) < ln w a0 then
  if kd w a1 = 9 then
  bI (C 103 w [rV a1, iV (gv w a0 (w32 (a4 + 1)))]) (fun x2 w1 =>
  if kd w1 a0 = 20 ∧ 0 ≤ (w32 (a4 + 1)) ∧ (w32 (a4 + 1)) < ln w1 a0 then
  if kd w1 a2 = 10 then
  bI (C 192 w1 [rV a2, iV (gv w1 a0 (w32 (a4 + 1)))]) (fun x4 w3 =>
  if x2 = x4 then
   (some (.inl (1946, [some (rV a0), some (rV a1), some (rV a2), some (rV a3), some (iV a4), none, none], [], w3)))
  else
  some (.inr (some (iV 0), w3))) else none else none) else none else none := by
  rfl
set_option maxRecDepth 100000 in
theorem eL_law_389 (C : sC) (w : sW) (a0 a1 a2 a3 a4 : Int) : sg C mL_law 2000 389 [some (rV a0), some (rV a1), some (rV a2), some (rV a3), some (iV a4), none, none] [] w =
  if kd w a0 = 20 ∧ 0 ≤ (w32 (a4 + 1)) ∧ (w32 (a4 + 1)) < ln w a0 then
  if kd w a0 = 20 ∧ 0 ≤ (w32 (a4 + 2)) ∧ (w32 (a4 + 2)) < ln w a0 then
  if kd w a1 = 9 then
  bI (C 104 w [rV a1, iV (gv w a0 (w32 (a4 + 1))), iV (gv w a0 (w32 (a4 + 2)))]) (fun x2 w1 =>
  if kd w1 a0 = 20 ∧ 0 ≤ (w32 (a4 + 1)) ∧ (w32 (a4 + 1)) < ln w1 a0 then
  if kd w1 a0 = 20 ∧ 0 ≤ (w32 (a4 + 2)) ∧ (w32 (a4 + 2)) < ln w1 a0 then
  if kd w1 a2 = 10 then
  bI (C 193 w1 [rV a2, iV (gv w1 a0 (w32 (a4 + 1))), iV (gv w1 a0 (w32 (a4 + 2)))]) (fun x4 w3 =>
  if x2 = x4 then
   (some (.inl (1946, [some (rV a0), some (rV a1), some (rV a2), some (rV a3), some (iV a4), none, none], [], w3)))
  else
  some (.inr (some (iV 0), w3))) else none else none else none) else none else none else none := by
  rfl
set_option maxRecDepth 100000 in
theorem eL_law_426 (C : sC) (w : sW) (a0 a1 a2 a3 a4 : Int) : sg C mL_law 2000 426 [some (rV a0), some (rV a1), some (rV a2), some (rV a3), some (iV a4), none, none] [] w =
  if kd w a0 = 20 ∧ 0 ≤ (w32 (a4 + 1)) ∧ (w32 (a4 + 1)) < ln w a0 then
  if kd w a0 = 20 ∧ 0 ≤ (w32 (a4 + 2)) ∧ (w32 (a4 + 2)) < ln w a0 then
  if kd w a0 = 20 ∧ 0 ≤ (w32 (a4 + 3)) ∧ (w32 (a4 + 3)) < ln w a0 then
  if kd w a1 = 9 then
  bI (C 105 w [rV a1, iV (gv w a0 (w32 (a4 + 1))), iV (gv w a0 (w32 (a4 + 2))), iV (gv w a0 (w32 (a4 + 3)))]) (fun x2 w1 =>
  if kd w1 a0 = 20 ∧ 0 ≤ (w32 (a4 + 1)) ∧ (w32 (a4 + 1)) < ln w1 a0 then
  if kd w1 a0 = 20 ∧ 0 ≤ (w32 (a4 + 2)) ∧ (w32 (a4 + 2)) < ln w1 a0 then
  if kd w1 a0 = 20 ∧ 0 ≤ (w32 (a4 + 3)) ∧ (w32 (a4 + 3)) < ln w1 a0 then
  if kd w1 a2 = 10 then
  bI (C 194 w1 [rV a2, iV (gv w1 a0 (w32 (a4 + 1))), iV (gv w1 a0 (w32 (a4 + 2))), iV (gv w1 a0 (w32 (a4 + 3)))]) (fun x4 w3 =>
  if x2 = x4 then
   (some (.inl (1946, [some (rV a0), some (rV a1), some (rV a2), some (rV a3), some (iV a4), none, none], [], w3)))
  else
  some (.inr (some (iV 0), w3))) else none else none else none else none) else none else none else none else none := by
  rfl
set_option maxRecDepth 100000 in
theorem eL_law_475 (C : sC) (w : sW) (a0 a1 a2 a3 a4 : Int) : sg C mL_law 2000 475 [some (rV a0), some (rV a1), some (rV a2), some (rV a3), some (iV a4), none, none] [] w =
  if kd w a0 = 20 ∧ 0 ≤ (w32 (a4 + 1)) ∧ (w32 (a4 + 1)) < ln w a0 then
  if kd w a0 = 20 ∧ 0 ≤ (w32 (a4 + 2)) ∧ (w32 (a4 + 2)) < ln w a0 then
  if kd w a0 = 20 ∧ 0 ≤ (w32 (a4 + 3)) ∧ (w32 (a4 + 3)) < ln w a0 then
  if kd w a1 = 9 then
  bI (C 107 w [rV a1, iV (gv w a0 (w32 (a4 + 1))), iV (gv w a0 (w32 (a4 + 2))), iV (gv w a0 (w32 (a4 + 3)))]) (fun x2 w1 =>
  if kd w1 a0 = 20 ∧ 0 ≤ (w32 (a4 + 1)) ∧ (w32 (a4 + 1)) < ln w1 a0 then
  if kd w1 a0 = 20 ∧ 0 ≤ (w32 (a4 + 2)) ∧ (w32 (a4 + 2)) < ln w1 a0 then
  if kd w1 a0 = 20 ∧ 0 ≤ (w32 (a4 + 3)) ∧ (w32 (a4 + 3)) < ln w1 a0 then
  if kd w1 a2 = 10 then
  bI (C 195 w1 [rV a2, iV (gv w1 a0 (w32 (a4 + 1))), iV (gv w1 a0 (w32 (a4 + 2))), iV (gv w1 a0 (w32 (a4 + 3)))]) (fun x4 w3 =>
  if x2 = x4 then
   (some (.inl (1946, [some (rV a0), some (rV a1), some (rV a2), some (rV a3), some (iV a4), none, none], [], w3)))
  else
  some (.inr (some (iV 0), w3))) else none else none else none else none) else none else none else none else none := by
  rfl
set_option maxRecDepth 100000 in
theorem eL_law_524 (C : sC) (w : sW) (a0 a1 a2 a3 a4 : Int) : sg C mL_law 2000 524 [some (rV a0), some (rV a1), some (rV a2), some (rV a3), some (iV a4), none, none] [] w =
  if kd w a0 = 20 ∧ 0 ≤ (w32 (a4 + 1)) ∧ (w32 (a4 + 1)) < ln w a0 then
  if kd w a0 = 20 ∧ 0 ≤ (w32 (a4 + 2)) ∧ (w32 (a4 + 2)) < ln w a0 then
  if kd w a0 = 20 ∧ 0 ≤ (w32 (a4 + 3)) ∧ (w32 (a4 + 3)) < ln w a0 then
  if kd w a1 = 9 then
  bI (C 108 w [rV a1, iV (gv w a0 (w32 (a4 + 1))), iV (gv w a0 (w32 (a4 + 2))), iV (gv w a0 (w32 (a4 + 3)))]) (fun x2 w1 =>
  if kd w1 a0 = 20 ∧ 0 ≤ (w32 (a4 + 1)) ∧ (w32 (a4 + 1)) < ln w1 a0 then
  if kd w1 a0 = 20 ∧ 0 ≤ (w32 (a4 + 2)) ∧ (w32 (a4 + 2)) < ln w1 a0 then
  if kd w1 a0 = 20 ∧ 0 ≤ (w32 (a4 + 3)) ∧ (w32 (a4 + 3)) < ln w1 a0 then
  if kd w1 a2 = 10 then
  bI (C 196 w1 [rV a2, iV (gv w1 a0 (w32 (a4 + 1))), iV (gv w1 a0 (w32 (a4 + 2))), iV (gv w1 a0 (w32 (a4 + 3)))]) (fun x4 w3 =>
  if x2 = x4 then
   (some (.inl (1946, [some (rV a0), some (rV a1), some (rV a2), some (rV a3), some (iV a4), none, none], [], w3)))
  else
  some (.inr (some (iV 0), w3))) else none else none else none else none) else none else none else none else none := by
  rfl
set_option maxRecDepth 100000 in
theorem eL_law_573 (C : sC) (w : sW) (a0 a1 a2 a3 a4 : Int) : sg C mL_law 2000 573 [some (rV a0), some (rV a1), some (rV a2), some (rV a3), some (iV a4), none, none] [] w =
  if kd w a0 = 20 ∧ 0 ≤ (w32 (a4 + 1)) ∧ (w32 (a4 + 1)) < ln w a0 then
  if kd w a1 = 9 then
  bI (C 109 w [rV a1, iV (gv w a0 (w32 (a4 + 1)))]) (fun x2 w1 =>
  if kd w1 a0 = 20 ∧ 0 ≤ (w32 (a4 + 1)) ∧ (w32 (a4 + 1)) < ln w1 a0 then
  if kd w1 a2 = 10 then
  bI (C 198 w1 [rV a2, iV (gv w1 a0 (w32 (a4 + 1)))]) (fun x4 w3 =>
  if x2 = x4 then
   (some (.inl (1946, [some (rV a0), some (rV a1), some (rV a2), some (rV a3), some (iV a4), none, none], [], w3)))
  else
  some (.inr (some (iV 0), w3))) else none else none) else none else none := by
  rfl
set_option maxRecDepth 100000 in
theorem eL_law_598 (C : sC) (w : sW) (a0 a1 a2 a3 a4 : Int) : sg C mL_law 2000 598 [some (rV a0), some (rV a1), some (rV a2), some (rV a3), some (iV a4), none, none] [] w =
  if kd w a0 = 20 ∧ 0 ≤ (w32 (a4 + 1)) ∧ (w32 (a4 + 1)) < ln w a0 then
  if kd w a0 = 20 ∧ 0 ≤ (w32 (a4 + 2)) ∧ (w32 (a4 + 2)) < ln w a0 then
  if kd w a1 = 9 then
  bI (C 110 w [rV a1, iV (gv w a0 (w32 (a4 + 1))), iV (gv w a0 (w32 (a4 + 2)))]) (fun x2 w1 =>
  if kd w1 a0 = 20 ∧ 0 ≤ (w32 (a4 + 1)) ∧ (w32 (a4 + 1)) < ln w1 a0 then
  if kd w1 a0 = 20 ∧ 0 ≤ (w32 (a4 + 2)) ∧ (w32 (a4 + 2)) < ln w1 a0 then
  if kd w1 a2 = 10 then
  bI (C 199 w1 [rV a2, iV (gv w1 a0 (w32 (a4 + 1))), iV (gv w1 a0 (w32 (a4 + 2)))]) (fun x4 w3 =>
  if x2 = x4 then
   (some (.inl (1946, [some (rV a0), some (rV a1), some (rV a2), some (rV a3), some (iV a4), none, none], [], w3)))
  else
  some (.inr (some (iV 0), w3))) else none else none else none) else none else none else none := by
  rfl
set_option maxRecDepth 100000 in
theorem eL_law_635 (C : sC) (w : sW) (a0 a1 a2 a3 a4 : Int) : sg C mL_law 2000 635 [some (rV a0), some (rV a1), some (rV a2), some (rV a3), some (iV a4), none, none] [] w =
  if kd w a0 = 20 ∧ 0 ≤ (w32 (a4 + 1)) ∧ (w32 (a4 + 1)) < ln w a0 then
  if kd w a0 = 20 ∧ 0 ≤ (w32 (a4 + 2)) ∧ (w32 (a4 + 2)) < ln w a0 then
  bI (C 279 w [rV a1, iV (gv w a0 (w32 (a4 + 1))), iV (gv w a0 (w32 (a4 + 2))), rV a3]) (fun x2 w1 =>
  if kd w1 a0 = 20 ∧ 0 ≤ (w32 (a4 + 1)) ∧ (w32 (a4 + 1)) < ln w1 a0 then
  if kd w1 a0 = 20 ∧ 0 ≤ (w32 (a4 + 2)) ∧ (w32 (a4 + 2)) < ln w1 a0 then
  if kd w1 a2 = 10 then
  bI (C 200 w1 [rV a2, iV (gv w1 a0 (w32 (a4 + 1))), iV (gv w1 a0 (w32 (a4 + 2)))]) (fun x4 w3 =>
  if kd w3 a2 = 10 then
  bI (C 149 w3 [rV a2]) (fun x6 w5 =>
  if x6 = x2 then
   (if x2 = 0 then
    (if kd w5 a3 = 22 ∧ 0 ≤ (0 : Int) ∧ (0 : Int) < ln w5 a3 then
    if (cmpL (gv w5 a3 0) x4) = 0 then
     (some (.inl (1946, [some (rV a0), some (rV a1), some (rV a2), some (rV a3), some (iV a4), none, none], [], w5)))
    else
    some (.inr (some (iV 0), w5)) else none)
   else
   some (.inl (1946, [some (rV a0), some (rV a1), some (rV a2), some (rV a3), some (iV a4), none, none], [], w5)))
  else
  some (.inr (some (iV 0), w5))) else none) else none else none else none) else none else none := by
  rfl
set_option maxRecDepth 100000 in
theorem eL_law_703 (C : sC) (w : sW) (a0 a1 a2 a3 a4 : Int) : sg C mL_law 2000 703 [some (rV a0), some (rV a1), some (rV a2), some (rV a3), some (iV a4), none, none] [] w =
  if kd w a0 = 20 ∧ 0 ≤ (w32 (a4 + 1)) ∧ (w32 (a4 + 1)) < ln w a0 then
  if kd w a1 = 9 then
  bI (C 112 w [rV a1, iV (gv w a0 (w32 (a4 + 1)))]) (fun x2 w1 =>
  if kd w1 a0 = 20 ∧ 0 ≤ (w32 (a4 + 1)) ∧ (w32 (a4 + 1)) < ln w1 a0 then
  if kd w1 a2 = 10 then
  bI (C 201 w1 [rV a2, iV (gv w1 a0 (w32 (a4 + 1)))]) (fun x4 w3 =>
  if x2 = x4 then
   (some (.inl (1946, [some (rV a0), some (rV a1), some (rV a2), some (rV a3), some (iV a4), none, none], [], w3)))
  else
  some (.inr (some (iV 0), w3))) else none else none) else none else none := by
  rfl
set_option maxRecDepth 100000 in
theorem eL_law_728 (C : sC) (w : sW) (a0 a1 a2 a3 a4 : Int) : sg C mL_law 2000 728 [some (rV a0), some (rV a1), some (rV a2), some (rV a3), some (iV a4), none, none] [] w =
  if kd w a0 = 20 ∧ 0 ≤ (w32 (a4 + 1)) ∧ (w32 (a4 + 1)) < ln w a0 then
  if kd w a0 = 20 ∧ 0 ≤ (w32 (a4 + 2)) ∧ (w32 (a4 + 2)) < ln w a0 then
  if kd w a0 = 20 ∧ 0 ≤ (w32 (a4 + 3)) ∧ (w32 (a4 + 3)) < ln w a0 then
  if kd w a1 = 9 then
  bI (C 113 w [rV a1, iV (gv w a0 (w32 (a4 + 1))), iV (gv w a0 (w32 (a4 + 2))), iV (gv w a0 (w32 (a4 + 3)))]) (fun x2 w1 =>
  if kd w1 a0 = 20 ∧ 0 ≤ (w32 (a4 + 1)) ∧ (w32 (a4 + 1)) < ln w1 a0 then
  if kd w1 a0 = 20 ∧ 0 ≤ (w32 (a4 + 2)) ∧ (w32 (a4 + 2)) < ln w1 a0 then
  if kd w1 a0 = 20 ∧ 0 ≤ (w32 (a4 + 3)) ∧ (w32 (a4 + 3)) < ln w1 a0 then
  if kd w1 a2 = 10 then
  bI (C 202 w1 [rV a2, iV (gv w1 a0 (w32 (a4 + 1))), iV (gv w1 a0 (w32 (a4 + 2))), iV (gv w1 a0 (w32 (a4 + 3)))]) (fun x4 w3 =>
  if x2 = x4 then
   (some (.inl (1946, [some (rV a0), some (rV a1), some (rV a2), some (rV a3), some (iV a4), none, none], [], w3)))
  else
  some (.inr (some (iV 0), w3))) else none else none else none else none) else none else none else none else none := by
  rfl
set_option maxRecDepth 100000 in
theorem eL_law_777 (C : sC) (w : sW) (a0 a1 a2 a3 a4 : Int) : sg C mL_law 2000 777 [some (rV a0), some (rV a1), some (rV a2), some (rV a3), some (iV a4), none, none] [] w =
  if kd w a0 = 20 ∧ 0 ≤ (w32 (a4 + 1)) ∧ (w32 (a4 + 1)) < ln w a0 then
  if kd w a0 = 20 ∧ 0 ≤ (w32 (a4 + 2)) ∧ (w32 (a4 + 2)) < ln w a0 then
  if kd w a1 = 9 then
  bI (C 114 w [rV a1, iV (gv w a0 (w32 (a4 + 1))), iV (gv w a0 (w32 (a4 + 2)))]) (fun x2 w1 =>
  if kd w1 a0 = 20 ∧ 0 ≤ (w32 (a4 + 1)) ∧ (w32 (a4 + 1)) < ln w1 a0 then
  if kd w1 a0 = 20 ∧ 0 ≤ (w32 (a4 + 2)) ∧ (w32 (a4 + 2)) < ln w1 a0 then
  if kd w1 a2 = 10 then
  bI (C 207 w1 [rV a2, iV (gv w1 a0 (w32 (a4 + 1))), iV (gv w1 a0 (w32 (a4 + 2)))]) (fun x4 w3 =>
  if x2 = x4 then
   (some (.inl (1946, [some (rV a0), some (rV a1), some (rV a2), some (rV a3), some (iV a4), none, none], [], w3)))
  else
  some (.inr (some (iV 0), w3))) else none else none else none) else none else none else none := by
  rfl
set_option maxRecDepth 100000 in
theorem eL_law_814 (C : sC) (w : sW) (a0 a1 a2 a3 a4 : Int) : sg C mL_law 2000 814 [some (rV a0), some (rV a1), some (rV a2), some (rV a3), some (iV a4), none, none] [] w =
  if kd w a0 = 20 ∧ 0 ≤ (w32 (a4 + 1)) ∧ (w32 (a4 + 1)) < ln w a0 then
  if kd w a0 = 20 ∧ 0 ≤ (w32 (a4 + 2)) ∧ (w32 (a4 + 2)) < ln w a0 then
  if kd w a0 = 20 ∧ 0 ≤ (w32 (a4 + 3)) ∧ (w32 (a4 + 3)) < ln w a0 then
  bI (C 280 w [rV a1, iV (gv w a0 (w32 (a4 + 1))), iV (gv w a0 (w32 (a4 + 2))), iV (gv w a0 (w32 (a4 + 3))), rV a3]) (fun x2 w1 =>
  if kd w1 a0 = 20 ∧ 0 ≤ (w32 (a4 + 1)) ∧ (w32 (a4 + 1)) < ln w1 a0 then
  if kd w1 a0 = 20 ∧ 0 ≤ (w32 (a4 + 2)) ∧ (w32 (a4 + 2)) < ln w1 a0 then
  if kd w1 a0 = 20 ∧ 0 ≤ (w32 (a4 + 3)) ∧ (w32 (a4 + 3)) < ln w1 a0 then
  if kd w1 a2 = 10 then
  bI (C 211 w1 [rV a2, iV (gv w1 a0 (w32 (a4 + 1))), iV (gv w1 a0 (w32 (a4 + 2))), iV (gv w1 a0 (w32 (a4 + 3)))]) (fun x4 w3 =>
  if kd w3 a2 = 10 then
  bI (C 149 w3 [rV a2]) (fun x6 w5 =>
  if x6 = x2 then
   (if x2 = 0 then
    (if kd w5 a3 = 22 ∧ 0 ≤ (0 : Int) ∧ (0 : Int) < ln w5 a3 then
    if (cmpL (gv w5 a3 0) x4) = 0 then
     (some (.inl (1946, [some (rV a0), some (rV a1), some (rV a2), some (rV a3), some (iV a4), none, none], [], w5)))
    else
    some (.inr (some (iV 0), w5)) else none)
   else
   some (.inl (1946, [some (rV a0), some (rV a1), some (rV a2), some (rV a3), some (iV a4), none, none], [], w5)))
  else
  some (.inr (some (iV 0), w5))) else none) else none else none else none else none) else none else none else none := by
  rfl
set_option maxRecDepth 100000 in
theorem eL_law_894 (C : sC) (w : sW) (a0 a1 a2 a3 a4 : Int) : sg C mL_law 2000 894 [some (rV a0), some (rV a1), some (rV a2), some (rV a3), some (iV a4), none, none] [] w =
  if kd w a0 = 20 ∧ 0 ≤ (w32 (a4 + 1)) ∧ (w32 (a4 + 1)) < ln w a0 then
  bI (C 281 w [rV a1, iV (gv w a0 (w32 (a4 + 1))), rV a3]) (fun x2 w1 =>
  if kd w1 a0 = 20 ∧ 0 ≤ (w32 (a4 + 1)) ∧ (w32 (a4 + 1)) < ln w1 a0 then
  if kd w1 a2 = 10 then
  bI (C 212 w1 [rV a2, iV (gv w1 a0 (w32 (a4 + 1)))]) (fun x4 w3 =>
  if kd w3 a2 = 10 then
  bI (C 149 w3 [rV a2]) (fun x6 w5 =>
  if x6 = x2 then
   (if x2 = 0 then
    (if kd w5 a3 = 22 ∧ 0 ≤ (0 : Int) ∧ (0 : Int) < ln w5 a3 then
    if (cmpL (gv w5 a3 0) x4) = 0 then
     (some (.inl (1946, [some (rV a0), some (rV a1), some (rV a2), some (rV a3), some (iV a4), none, none], [], w5)))
    else
    some (.inr (some (iV 0), w5)) else none)
   else
   some (.inl (1946, [some (rV a0), some (rV a1), some (rV a2), some (rV a3), some (iV a4), none, none], [], w5)))
  else
  some (.inr (some (iV 0), w5))) else none) else none else none) else none := by
  rfl
set_option maxRecDepth 100000 in
theorem eL_law_950 (C : sC) (w : sW) (a0 a1 a2 a3 a4 : Int) : sg C mL_law 2000 950 [some (rV a0), some (rV a1), some (rV a2), some (rV a3), some (iV a4), none, none] [] w =
  if kd w a0 = 20 ∧ 0 ≤ (w32 (a4 + 1)) ∧ (w32 (a4 + 1)) < ln w a0 then
  if kd w a0 = 20 ∧ 0 ≤ (w32 (a4 + 2)) ∧ (w32 (a4 + 2)) < ln w a0 then
  bI (C 282 w [rV a1, iV (gv w a0 (w32 (a4 + 1))), iV (gv w a0 (w32 (a4 + 2))), rV a3]) (fun x2 w1 =>
  if kd w1 a0 = 20 ∧ 0 ≤ (w32 (a4 + 1)) ∧ (w32 (a4 + 1)) < ln w1 a0 then
  if kd w1 a0 = 20 ∧ 0 ≤ (w32 (a4 + 2)) ∧ (w32 (a4 + 2)) < ln w1 a0 then
  if kd w1 a2 = 10 then
  bI (C 213 w1 [rV a2, iV (gv w1 a0 (w32 (a4 + 1))), iV (gv w1 a0 (w32 (a4 + 2)))]) (fun x4 w3 =>
  if kd w3 a2 = 10 then
  bI (C 149 w3 [rV a2]) (fun x6 w5 =>
  if x6 = x2 then
   (if x2 = 0 then
    (if kd w5 a3 = 22 ∧ 0 ≤ (0 : Int) ∧ (0 : Int) < ln w5 a3 then
    if (cmpL (gv w5 a3 0) x4) = 0 then
     (some (.inl (1946, [some (rV a0), some (rV a1), some (rV a2), some (rV a3), some (iV a4), none, none], [], w5)))
    else
    some (.inr (some (iV 0), w5)) else none)
   else
   some (.inl (1946, [some (rV a0), some (rV a1), some (rV a2), some (rV a3), some (iV a4), none, none], [], w5)))
  else
  some (.inr (some (iV 0), w5))) else none) else none else none else none) else none else none := by
  rfl
set_option maxRecDepth 100000 in
theorem eL_law_1018 (C : sC) (w : sW) (a0 a1 a2 a3 a4 : Int) : sg C mL_law 2000 1018 [some (rV a0), some (rV a1), some (rV a2), some (rV a3), some (iV a4), none, none] [] w =
  if kd w a0 = 20 ∧ 0 ≤ (w32 (a4 + 1)) ∧ (w32 (a4 + 1)) < ln w a0 then
  if kd w a0 = 20 ∧ 0 ≤ (w32 (a4 + 2)) ∧ (w32 (a4 + 2)) < ln w a0 then
  if kd w a1 = 9 then
  bI (C 118 w [rV a1, iV (gv w a0 (w32 (a4 + 1))), iV (gv w a0 (w32 (a4 + 2)))]) (fun x2 w1 =>
  if kd w1 a0 = 20 ∧ 0 ≤ (w32 (a4 + 1)) ∧ (w32 (a4 + 1)) < ln w1 a0 then
  if kd w1 a0 = 20 ∧ 0 ≤ (w32 (a4 + 2)) ∧ (w32 (a4 + 2)) < ln w1 a0 then
  if kd w1 a2 = 10 then
  bI (C 215 w1 [rV a2, iV (gv w1 a0 (w32 (a4 + 1))), iV (gv w1 a0 (w32 (a4 + 2)))]) (fun x4 w3 =>
  if x2 = x4 then
   (some (.inl (1946, [some (rV a0), some (rV a1), some (rV a2), some (rV a3), some (iV a4), none, none], [], w3)))
  else
  some (.inr (some (iV 0), w3))) else none else none else none) else none else none else none := by
  rfl
set_option maxRecDepth 100000 in
theorem eL_law_1055 (C : sC) (w : sW) (a0 a1 a2 a3 a4 : Int) : sg C mL_law 2000 1055 [some (rV a0), some (rV a1), some (rV a2), some (rV a3), some (iV a4), none, none] [] w =
  if kd w a0 = 20 ∧ 0 ≤ (w32 (a4 + 1)) ∧ (w32 (a4 + 1)) < ln w a0 then
  if kd w a0 = 20 ∧ 0 ≤ (w32 (a4 + 2)) ∧ (w32 (a4 + 2)) < ln w a0 then
  if kd w a1 = 9 then
  bI (C 119 w [rV a1, iV (gv w a0 (w32 (a4 + 1))), iV (gv w a0 (w32 (a4 + 2)))]) (fun x2 w1 =>
  if kd w1 a0 = 20 ∧ 0 ≤ (w32 (a4 + 1)) ∧ (w32 (a4 + 1)) < ln w1 a0 then
  if kd w1 a0 = 20 ∧ 0 ≤ (w32 (a4 + 2)) ∧ (w32 (a4 + 2)) < ln w1 a0 then
  if kd w1 a2 = 10 then
  bI (C 217 w1 [rV a2, iV (gv w1 a0 (w32 (a4 + 1))), iV (gv w1 a0 (w32 (a4 + 2)))]) (fun x4 w3 =>
  if x2 = x4 then
   (some (.inl (1946, [some (rV a0), some (rV a1), some (rV a2), some (rV a3), some (iV a4), none, none], [], w3)))
  else
  some (.inr (some (iV 0), w3))) else none else none else none) else none else none else none := by
  rfl
set_option maxRecDepth 100000 in
theorem eL_law_1092 (C : sC) (w : sW) (a0 a1 a2 a3 a4 : Int) : sg C mL_law 2000 1092 [some (rV a0), some (rV a1), some (rV a2), some (rV a3), some (iV a4), none, none] [] w =
  if kd w a0 = 20 ∧ 0 ≤ (w32 (a4 + 1)) ∧ (w32 (a4 + 1)) < ln w a0 then
  if kd w a1 = 9 then
  bI (C 120 w [rV a1, iV (gv w a0 (w32 (a4 + 1)))]) (fun x2 w1 =>
  if kd w1 a0 = 20 ∧ 0 ≤ (w32 (a4 + 1)) ∧ (w32 (a4 + 1)) < ln w1 a0 then
  if kd w1 a2 = 10 then
  bI (C 220 w1 [rV a2, iV (gv w1 a0 (w32 (a4 + 1)))]) (fun x4 w3 =>
  if x2 = x4 then
   (some (.inl (1946, [some (rV a0), some (rV a1), some (rV a2), some (rV a3), some (iV a4), none, none], [], w3)))
  else
  some (.inr (some (iV 0), w3))) else none else none) else none else none := by
  rfl
set_option maxRecDepth 100000 in
theorem eL_law_1117 (C : sC) (w : sW) (a0 a1 a2 a3 a4 : Int) : sg C mL_law 2000 1117 [some (rV a0), some (rV a1), some (rV a2), some (rV a3), some (iV a4), none, none] [] w =
  if kd w a0 = 20 ∧ 0 ≤ (w32 (a4 + 1)) ∧ (w32 (a4 + 1)) < ln w a0 then
  if kd w a1 = 9 then
  bI (C 122 w [rV a1, iV (gv w a0 (w32 (a4 + 1)))]) (fun x2 w1 =>
  if kd w1 a0 = 20 ∧ 0 ≤ (w32 (a4 + 1)) ∧ (w32 (a4 + 1)) < ln w1 a0 then
  if kd w1 a2 = 10 then
  bI (C 221 w1 [rV a2, iV (gv w1 a0 (w32 (a4 + 1)))]) (fun x4 w3 =>
  if x2 = x4 then
   (some (.inl (1946, [some (rV a0), some (rV a1), some (rV a2), some (rV a3), some (iV a4), none, none], [], w3)))
  else
  some (.inr (some (iV 0), w3))) else none else none) else none else none := by
  rfl
set_option maxRecDepth 100000 in
theorem eL_law_1142 (C : sC) (w : sW) (a0 a1 a2 a3 a4 : Int) : sg C mL_law 2000 1142 [some (rV a0), some (rV a1), some (rV a2), some (rV a3), some (iV a4), none, none] [] w =
  if kd w a0 = 20 ∧ 0 ≤ (w32 (a4 + 1)) ∧ (w32 (a4 + 1)) < ln w a0 then
  if kd w a0 = 20 ∧ 0 ≤ (w32 (a4 + 2)) ∧ (w32 (a4 + 2)) < ln w a0 then
  if kd w a0 = 20 ∧ 0 ≤ (w32 (a4 + 3)) ∧ (w32 (a4 + 3)) < ln w a0 then
  if kd w a1 = 9 then
  bI (C 123 w [rV a1, iV (gv w a0 (w32 (a4 + 1))), iV (gv w a0 (w32 (a4 + 2))), iV (gv w a0 (w32 (a4 + 3)))]) (fun x2 w1 =>
  if kd w1 a0 = 20 ∧ 0 ≤ (w32 (a4 + 1)) ∧ (w32 (a4 + 1)) < ln w1 a0 then
  if kd w1 a0 = 20 ∧ 0 ≤ (w32 (a4 + 2)) ∧ (w32 (a4 + 2)) < ln w1 a0 then
  if kd w1 a0 = 20 ∧ 0 ≤ (w32 (a4 + 3)) ∧ (w32 (a4 + 3)) < ln w1 a0 then
  if kd w1 a2 = 10 then
  bI (C 239 w1 [rV a2, iV (gv w1 a0 (w32 (a4 + 1))), iV (gv w1 a0 (w32 (a4 + 2))), iV (gv w1 a0 (w32 (a4 + 3)))]) (fun x4 w3 =>
  if x2 = x4 then
   (some (.inl (1946, [some (rV a0), some (rV a1), some (rV a2), some (rV a3), some (iV a4), none, none], [], w3)))
  else
  some (.inr (some (iV 0), w3))) else none else none else none else none) else none else none else none else none := by
  rfl
set_option maxRecDepth 100000 in
theorem eL_law_1191 (C : sC) (w : sW) (a0 a1 a2 a3 a4 : Int) : sg C mL_law 2000 1191 [some (rV a0), some (rV a1), some (rV a2), some (rV a3), some (iV a4), none, none] [] w =
  if kd w a0 = 20 ∧ 0 ≤ (w32 (a4 + 1)) ∧ (w32 (a4 + 1)) < ln w a0 then
  if kd w a0 = 20 ∧ 0 ≤ (w32 (a4 + 2)) ∧ (w32 (a4 + 2)) < ln w a0 then
  if kd w a0 = 20 ∧ 0 ≤ (w32 (a4 + 3)) ∧ (w32 (a4 + 3)) < ln w a0 then
  if kd w a1 = 9 then
  bI (C 125 w [rV a1, iV (gv w a0 (w32 (a4 + 1))), iV (gv w a0 (w32 (a4 + 2))), iV (gv w a0 (w32 (a4 + 3)))]) (fun x2 w1 =>
  if kd w1 a0 = 20 ∧ 0 ≤ (w32 (a4 + 1)) ∧ (w32 (a4 + 1)) < ln w1 a0 then
  if kd w1 a0 = 20 ∧ 0 ≤ (w32 (a4 + 2)) ∧ (w32 (a4 + 2)) < ln w1 a0 then
  if kd w1 a0 = 20 ∧ 0 ≤ (w32 (a4 + 3)) ∧ (w32 (a4 + 3)) < ln w1 a0 then
  if kd w1 a2 = 10 then
  bI (C 240 w1 [rV a2, iV (gv w1 a0 (w32 (a4 + 1))), iV (gv w1 a0 (w32 (a4 + 2))), iV (gv w1 a0 (w32 (a4 + 3)))]) (fun x4 w3 =>
  if x2 = x4 then
   (some (.inl (1946, [some (rV a0), some (rV a1), some (rV a2), some (rV a3), some (iV a4), none, none], [], w3)))
  else
  some (.inr (some (iV 0), w3))) else none else none else none else none) else none else none else none else none := by
  rfl
set_option maxRecDepth 100000 in
theorem eL_law_1240 (C : sC) (w : sW) (a0 a1 a2 a3 a4 : Int) : sg C mL_law 2000 1240 [some (rV a0), some (rV a1), some (rV a2), some (rV a3), some (iV a4), none, none] [] w =
  if kd w a0 = 20 ∧ 0 ≤ (w32 (a4 + 1)) ∧ (w32 (a4 + 1)) < ln w a0 then
  if kd w a0 = 20 ∧ 0 ≤ (w32 (a4 + 2)) ∧ (w32 (a4 + 2)) < ln w a0 then
  if kd w a0 = 20 ∧ 0 ≤ (w32 (a4 + 3)) ∧ (w32 (a4 + 3)) < ln w a0 then
  if kd w a1 = 9 then
  bI (C 126 w [rV a1, iV (gv w a0 (w32 (a4 + 1))), iV (gv w a0 (w32 (a4 + 2))), iV (gv w a0 (w32 (a4 + 3)))]) (fun x2 w1 =>
  if kd w1 a0 = 20 ∧ 0 ≤ (w32 (a4 + 1)) ∧ (w32 (a4 + 1)) < ln w1 a0 then
  if kd w1 a0 = 20 ∧ 0 ≤ (w32 (a4 + 2)) ∧ (w32 (a4 + 2)) < ln w1 a0 then
  if kd w1 a0 = 20 ∧ 0 ≤ (w32 (a4 + 3)) ∧ (w32 (a4 + 3)) < ln w1 a0 then
  if kd w1 a2 = 10 then
  bI (C 241 w1 [rV a2, iV (gv w1 a0 (w32 (a4 + 1))), iV (gv w1 a0 (w32 (a4 + 2))), iV (gv w1 a0 (w32 (a4 + 3)))]) (fun x4 w3 =>
  if x2 = x4 then
   (some (.inl (1946, [some (rV a0), some (rV a1), some (rV a2), some (rV a3), some (iV a4), none, none], [], w3)))
  else
  some (.inr (some (iV 0), w3))) else none else none else none else none) else none else none else none else none := by
  rfl
set_option maxRecDepth 100000 in
theorem eL_law_1289 (C : sC) (w : sW) (a0 a1 a2 a3 a4 : Int) : sg C mL_law 2000 1289 [some (rV a0), some (rV a1), some (rV a2), some (rV a3), some (iV a4), none, none] [] w =
  if kd w a0 = 20 ∧ 0 ≤ (w32 (a4 + 1)) ∧ (w32 (a4 + 1)) < ln w a0 then
  if kd w a0 = 20 ∧ 0 ≤ (w32 (a4 + 2)) ∧ (w32 (a4 + 2)) < ln w a0 then
  if kd w a0 = 20 ∧ 0 ≤ (w32 (a4 + 3)) ∧ (w32 (a4 + 3)) < ln w a0 then
  if kd w a1 = 9 then
  bI (C 127 w [rV a1, iV (gv w a0 (w32 (a4 + 1))), iV (gv w a0 (w32 (a4 + 2))), iV (gv w a0 (w32 (a4 + 3)))]) (fun x2 w1 =>
  if kd w1 a0 = 20 ∧ 0 ≤ (w32 (a4 + 1)) ∧ (w32 (a4 + 1)) < ln w1 a0 then
  if kd w1 a0 = 20 ∧ 0 ≤ (w32 (a4 + 2)) ∧ (w32 (a4 + 2)) < ln w1 a0 then
  if kd w1 a0 = 20 ∧ 0 ≤ (w32 (a4 + 3)) ∧ (w32 (a4 + 3)) < ln w1 a0 then
  if kd w1 a2 = 10 then
  bI (C 242 w1 [rV a2, iV (gv w1 a0 (w32 (a4 + 1))), iV (gv w1 a0 (w32 (a4 + 2))), iV (gv w1 a0 (w32 (a4 + 3)))]) (fun x4 w3 =>
  if x2 = x4 then
   (some (.inl (1946, [some (rV a0), some (rV a1), some (rV a2), some (rV a3), some (iV a4), none, none], [], w3)))
  else
  some (.inr (some (iV 0), w3))) else none else none else none else none) else none else none else none else none := by
  rfl
set_option maxRecDepth 100000 in
theorem eL_law_1338 (C : sC) (w : sW) (a0 a1 a2 a3 a4 : Int) : sg C mL_law 2000 1338 [some (rV a0), some (rV a1), some (rV a2), some (rV a3), some (iV a4), none, none] [] w =
  if kd w a0 = 20 ∧ 0 ≤ (w32 (a4 + 1)) ∧ (w32 (a4 + 1)) < ln w a0 then
  if kd w a0 = 20 ∧ 0 ≤ (w32 (a4 + 2)) ∧ (w32 (a4 + 2)) < ln w a0 then
  if kd w a1 = 9 then
  bI (C 128 w [rV a1, iV (gv w a0 (w32 (a4 + 1))), iV (gv w a0 (w32 (a4 + 2)))]) (fun x2 w1 =>
  if kd w1 a0 = 20 ∧ 0 ≤ (w32 (a4 + 1)) ∧ (w32 (a4 + 1)) < ln w1 a0 then
  if kd w1 a0 = 20 ∧ 0 ≤ (w32 (a4 + 2)) ∧ (w32 (a4 + 2)) < ln w1 a0 then
  if kd w1 a2 = 10 then
  bI (C 243 w1 [rV a2, iV (gv w1 a0 (w32 (a4 + 1))), iV (gv w1 a0 (w32 (a4 + 2)))]) (fun x4 w3 =>
  if x2 = x4 then
   (some (.inl (1946, [some (rV a0), some (rV a1), some (rV a2), some (rV a3), some (iV a4), none, none], [], w3)))
  else
  some (.inr (some (iV 0), w3))) else none else none else none) else none else none else none := by
  rfl
set_option maxRecDepth 100000 in
theorem eL_law_1375 (C : sC) (w : sW) (a0 a1 a2 a3 a4 : Int) : sg C mL_law 2000 1375 [some (rV a0), some (rV a1), some (rV a2), some (rV a3), some (iV a4), none, none] [] w =
  if kd w a0 = 20 ∧ 0 ≤ (w32 (a4 + 1)) ∧ (w32 (a4 + 1)) < ln w a0 then
  if kd w a0 = 20 ∧ 0 ≤ (w32 (a4 + 2)) ∧ (w32 (a4 + 2)) < ln w a0 then
  if kd w a1 = 9 then
  bI (C 129 w [rV a1, iV (gv w a0 (w32 (a4 + 1))), iV (gv w a0 (w32 (a4 + 2)))]) (fun x2 w1 =>
  if kd w1 a0 = 20 ∧ 0 ≤ (w32 (a4 + 1)) ∧ (w32 (a4 + 1)) < ln w1 a0 then
  if kd w1 a0 = 20 ∧ 0 ≤ (w32 (a4 + 2)) ∧ (w32 (a4 + 2)) < ln w1 a0 then
  if kd w1 a2 = 10 then
  bI (C 245 w1 [rV a2, iV (gv w1 a0 (w32 (a4 + 1))), iV (gv w1 a0 (w32 (a4 + 2)))]) (fun x4 w3 =>
  if x2 = x4 then
   (some (.inl (1946, [some (rV a0), some (rV a1), some (rV a2), some (rV a3), some (iV a4), none, none], [], w3)))
  else
  some (.inr (some (iV 0), w3))) else none else none else none) else none else none else none := by
  rfl
set_option maxRecDepth 100000 in
theorem eL_law_1412 (C : sC) (w : sW) (a0 a1 a2 a3 a4 : Int) : sg C mL_law 2000 1412 [some (rV a0), some (rV a1), some (rV a2), some (rV a3), some (iV a4), none, none] [] w =
  if kd w a0 = 20 ∧ 0 ≤ (w32 (a4 + 1)) ∧ (w32 (a4 + 1)) < ln w a0 then
  if kd w a0 = 20 ∧ 0 ≤ (w32 (a4 + 2)) ∧ (w32 (a4 + 2)) < ln w a0 then
  if kd w a0 = 20 ∧ 0 ≤ (w32 (a4 + 3)) ∧ (w32 (a4 + 3)) < ln w a0 then
  if kd w a1 = 9 then
  bI (C 130 w [rV a1, iV (gv w a0 (w32 (a4 + 1))), iV (gv w a0 (w32 (a4 + 2))), iV (gv w a0 (w32 (a4 + 3)))]) (fun x2 w1 =>
  if kd w1 a0 = 20 ∧ 0 ≤ (w32 (a4 + 1)) ∧ (w32 (a4 + 1)) < ln w1 a0 then
  if kd w1 a0 = 20 ∧ 0 ≤ (w32 (a4 + 2)) ∧ (w32 (a4 + 2)) < ln w1 a0 then
  if kd w1 a0 = 20 ∧ 0 ≤ (w32 (a4 + 3)) ∧ (w32 (a4 + 3)) < ln w1 a0 then
  if kd w1 a2 = 10 then
  bI (C 246 w1 [rV a2, iV (gv w1 a0 (w32 (a4 + 1))), iV (gv w1 a0 (w32 (a4 + 2))), iV (gv w1 a0 (w32 (a4 + 3)))]) (fun x4 w3 =>
  if x2 = x4 then
   (some (.inl (1946, [some (rV a0), some (rV a1), some (rV a2), some (rV a3), some (iV a4), none, none], [], w3)))
  else
  some (.inr (some (iV 0), w3))) else none else none else none else none) else none else none else none else none := by
  rfl
set_option maxRecDepth 100000 in
theorem eL_law_1461 (C : sC) (w : sW) (a0 a1 a2 a3 a4 : Int) : sg C mL_law 2000 1461 [some (rV a0), some (rV a1), some (rV a2), some (rV a3), some (iV a4), none, none] [] w =
  if kd w a1 = 9 then
  bI (C 131 w [rV a1]) (fun x2 w1 =>
  if kd w1 a2 = 10 then
  bI (C 223 w1 [rV a2]) (fun x4 w3 =>
  if x2 = x4 then
   (some (.inl (1946, [some (rV a0), some (rV a1), some (rV a2), some (rV a3), some (iV a4), none, none], [], w3)))
  else
  some (.inr (some (iV 0), w3))) else none) else none := by
  rfl
set_option maxRecDepth 100000 in
theorem eL_law_1474 (C : sC) (w : sW) (a0 a1 a2 a3 a4 : Int) : sg C mL_law 2000 1474 [some (rV a0), some (rV a1), some (rV a2), some (rV a3), some (iV a4), none, none] [] w =
  if kd w a0 = 20 ∧ 0 ≤ (w32 (a4 + 1)) ∧ (w32 (a4 + 1)) < ln w a0 then
  if kd w a1 = 9 then
  bI (C 132 w [rV a1, iV (gv w a0 (w32 (a4 + 1)))]) (fun x2 w1 =>
  if kd w1 a0 = 20 ∧ 0 ≤ (w32 (a4 + 1)) ∧ (w32 (a4 + 1)) < ln w1 a0 then
  if kd w1 a2 = 10 then
  bI (C 224 w1 [rV a2, iV (gv w1 a0 (w32 (a4 + 1)))]) (fun x4 w3 =>
  if x2 = x4 then
   (some (.inl (1946, [some (rV a0), some (rV a1), some (rV a2), some (rV a3), some (iV a4), none, none], [], w3)))
  else
  some (.inr (some (iV 0), w3))) else none else none) else none else none := by
  rfl
set_option maxRecDepth 100000 in
theorem eL_law_1499 (C : sC) (w : sW) (a0 a1 a2 a3 a4 : Int) : sg C mL_law 2000 1499 [some (rV a0), some (rV a1), some (rV a2), some (rV a3), some (iV a4), none, none] [] w =
  if kd w a0 = 20 ∧ 0 ≤ (w32 (a4 + 1)) ∧ (w32 (a4 + 1)) < ln w a0 then
  if kd w a0 = 20 ∧ 0 ≤ (w32 (a4 + 2)) ∧ (w32 (a4 + 2)) < ln w a0 then
  if kd w a1 = 9 then
  bI (C 133 w [rV a1, iV (gv w a0 (w32 (a4 + 1))), iV (gv w a0 (w32 (a4 + 2)))]) (fun x2 w1 =>
  if kd w1 a0 = 20 ∧ 0 ≤ (w32 (a4 + 1)) ∧ (w32 (a4 + 1)) < ln w1 a0 then
  if kd w1 a0 = 20 ∧ 0 ≤ (w32 (a4 + 2)) ∧ (w32 (a4 + 2)) < ln w1 a0 then
  if kd w1 a2 = 10 then
  bI (C 225 w1 [rV a2, iV (gv w1 a0 (w32 (a4 + 1))), iV (gv w1 a0 (w32 (a4 + 2)))]) (fun x4 w3 =>
  if x2 = x4 then
   (some (.inl (1946, [some (rV a0), some (rV a1), some (rV a2), some (rV a3), some (iV a4), none, none], [], w3)))
  else
  some (.inr (some (iV 0), w3))) else none else none else none) else none else none else none := by
  rfl
set_option maxRecDepth 100000 in
theorem eL_law_1536 (C : sC) (w : sW) (a0 a1 a2 a3 a4 : Int) : sg C mL_law 2000 1536 [some (rV a0), some (rV a1), some (rV a2), some (rV a3), some (iV a4), none, none] [] w =
  if kd w a0 = 20 ∧ 0 ≤ (w32 (a4 + 1)) ∧ (w32 (a4 + 1)) < ln w a0 then
  if kd w a0 = 20 ∧ 0 ≤ (w32 (a4 + 2)) ∧ (w32 (a4 + 2)) < ln w a0 then
  if kd w a1 = 9 then
  bI (C 135 w [rV a1, iV (gv w a0 (w32 (a4 + 1))), iV (gv w a0 (w32 (a4 + 2)))]) (fun x2 w1 =>
  if kd w1 a0 = 20 ∧ 0 ≤ (w32 (a4 + 1)) ∧ (w32 (a4 + 1)) < ln w1 a0 then
  if kd w1 a0 = 20 ∧ 0 ≤ (w32 (a4 + 2)) ∧ (w32 (a4 + 2)) < ln w1 a0 then
  if kd w1 a2 = 10 then
  bI (C 226 w1 [rV a2, iV (gv w1 a0 (w32 (a4 + 1))), iV (gv w1 a0 (w32 (a4 + 2)))]) (fun x4 w3 =>
  if x2 = x4 then
   (some (.inl (1946, [some (rV a0), some (rV a1), some (rV a2), some (rV a3), some (iV a4), none, none], [], w3)))
  else
  some (.inr (some (iV 0), w3))) else none else none else none) else none else none else none := by
  rfl
set_option maxRecDepth 100000 in
theorem eL_law_1573 (C : sC) (w : sW) (a0 a1 a2 a3 a4 : Int) : sg C mL_law 2000 1573 [some (rV a0), some (rV a1), some (rV a2), some (rV a3), some (iV a4), none, none] [] w =
  if kd w a0 = 20 ∧ 0 ≤ (w32 (a4 + 1)) ∧ (w32 (a4 + 1)) < ln w a0 then
  if kd w a0 = 20 ∧ 0 ≤ (w32 (a4 + 2)) ∧ (w32 (a4 + 2)) < ln w a0 then
  if kd w a0 = 20 ∧ 0 ≤ (w32 (a4 + 3)) ∧ (w32 (a4 + 3)) < ln w a0 then
  if kd w a1 = 9 then
  bI (C 136 w [rV a1, iV (gv w a0 (w32 (a4 + 1))), iV (gv w a0 (w32 (a4 + 2))), iV (gv w a0 (w32 (a4 + 3)))]) (fun x2 w1 =>
  if kd w1 a0 = 20 ∧ 0 ≤ (w32 (a4 + 1)) ∧ (w32 (a4 + 1)) < ln w1 a0 then
  if kd w1 a0 = 20 ∧ 0 ≤ (w32 (a4 + 2)) ∧ (w32 (a4 + 2)) < ln w1 a0 then
  if kd w1 a0 = 20 ∧ 0 ≤ (w32 (a4 + 3)) ∧ (w32 (a4 + 3)) < ln w1 a0 then
  if kd w1 a2 = 10 then
  bI (C 227 w1 [rV a2, iV (gv w1 a0 (w32 (a4 + 1))), iV (gv w1 a0 (w32 (a4 + 2))), iV (gv w1 a0 (w32 (a4 + 3)))]) (fun x4 w3 =>
  if x2 = x4 then
   (some (.inl (1946, [some (rV a0), some (rV a1), some (rV a2), some (rV a3), some (iV a4), none, none], [], w3)))
  else
  some (.inr (some (iV 0), w3))) else none else none else none else none) else none else none else none else none := by
  rfl
set_option maxRecDepth 100000 in
theorem eL_law_1622 (C : sC) (w : sW) (a0 a1 a2 a3 a4 : Int) : sg C mL_law 2000 1622 [some (rV a0), some (rV a1), some (rV a2), some (rV a3), some (iV a4), none, none] [] w =
  if kd w a0 = 20 ∧ 0 ≤ (w32 (a4 + 1)) ∧ (w32 (a4 + 1)) < ln w a0 then
  if kd w a0 = 20 ∧ 0 ≤ (w32 (a4 + 2)) ∧ (w32 (a4 + 2)) < ln w a0 then
  if kd w a1 = 9 then
  bI (C 137 w [rV a1, iV (gv w a0 (w32 (a4 + 1))), iV (gv w a0 (w32 (a4 + 2)))]) (fun x2 w1 =>
  if kd w1 a0 = 20 ∧ 0 ≤ (w32 (a4 + 1)) ∧ (w32 (a4 + 1)) < ln w1 a0 then
  if kd w1 a0 = 20 ∧ 0 ≤ (w32 (a4 + 2)) ∧ (w32 (a4 + 2)) < ln w1 a0 then
  if kd w1 a2 = 10 then
  bI (C 229 w1 [rV a2, iV (gv w1 a0 (w32 (a4 + 1))), iV (gv w1 a0 (w32 (a4 + 2)))]) (fun x4 w3 =>
  if x2 = x4 then
   (some (.inl (1946, [some (rV a0), some (rV a1), some (rV a2), some (rV a3), some (iV a4), none, none], [], w3)))
  else
  some (.inr (some (iV 0), w3))) else none else none else none) else none else none else none := by
  rfl
set_option maxRecDepth 100000 in
theorem eL_law_1659 (C : sC) (w : sW) (a0 a1 a2 a3 a4 : Int) : sg C mL_law 2000 1659 [some (rV a0), some (rV a1), some (rV a2), some (rV a3), some (iV a4), none, none] [] w =
  if kd w a0 = 20 ∧ 0 ≤ (w32 (a4 + 1)) ∧ (w32 (a4 + 1)) < ln w a0 then
  if kd w a0 = 20 ∧ 0 ≤ (w32 (a4 + 2)) ∧ (w32 (a4 + 2)) < ln w a0 then
  if kd w a1 = 9 then
  bI (C 138 w [rV a1, iV (gv w a0 (w32 (a4 + 1))), iV (gv w a0 (w32 (a4 + 2)))]) (fun x2 w1 =>
  if kd w1 a0 = 20 ∧ 0 ≤ (w32 (a4 + 1)) ∧ (w32 (a4 + 1)) < ln w1 a0 then
  if kd w1 a0 = 20 ∧ 0 ≤ (w32 (a4 + 2)) ∧ (w32 (a4 + 2)) < ln w1 a0 then
  if kd w1 a2 = 10 then
  bI (C 247 w1 [rV a2, iV (gv w1 a0 (w32 (a4 + 1))), iV (gv w1 a0 (w32 (a4 + 2)))]) (fun x4 w3 =>
  if x2 = x4 then
   (some (.inl (1946, [some (rV a0), some (rV a1), some (rV a2), some (rV a3), some (iV a4), none, none], [], w3)))
  else
  some (.inr (some (iV 0), w3))) else none else none else none) else none else none else none := by
  rfl
set_option maxRecDepth 100000 in
theorem eL_law_1696 (C : sC) (w : sW) (a0 a1 a2 a3 a4 : Int) : sg C mL_law 2000 1696 [some (rV a0), some (rV a1), some (rV a2), some (rV a3), some (iV a4), none, none] [] w =
  if kd w a0 = 20 ∧ 0 ≤ (w32 (a4 + 1)) ∧ (w32 (a4 + 1)) < ln w a0 then
  if kd w a0 = 20 ∧ 0 ≤ (w32 (a4 + 2)) ∧ (w32 (a4 + 2)) < ln w a0 then
  if kd w a1 = 9 then
  bI (C 139 w [rV a1, iV (gv w a0 (w32 (a4 + 1))), iV (gv w a0 (w32 (a4 + 2)))]) (fun x2 w1 =>
  if kd w1 a0 = 20 ∧ 0 ≤ (w32 (a4 + 1)) ∧ (w32 (a4 + 1)) < ln w1 a0 then
  if kd w1 a0 = 20 ∧ 0 ≤ (w32 (a4 + 2)) ∧ (w32 (a4 + 2)) < ln w1 a0 then
  if kd w1 a2 = 10 then
  bI (C 248 w1 [rV a2, iV (gv w1 a0 (w32 (a4 + 1))), iV (gv w1 a0 (w32 (a4 + 2)))]) (fun x4 w3 =>
  if x2 = x4 then
   (some (.inl (1946, [some (rV a0), some (rV a1), some (rV a2), some (rV a3), some (iV a4), none, none], [], w3)))
  else
  some (.inr (some (iV 0), w3))) else none else none else none) else none else none else none := by
  rfl
set_option maxRecDepth 100000 in
theorem eL_law_1733 (C : sC) (w : sW) (a0 a1 a2 a3 a4 : Int) : sg C mL_law 2000 1733 [some (rV a0), some (rV a1), some (rV a2), some (rV a3), some (iV a4), none, none] [] w =
  if kd w a1 = 9 then
  bI (C 140 w [rV a1]) (fun x2 w1 =>
  if kd w1 a2 = 10 then
  bI (C 249 w1 [rV a2]) (fun x4 w3 =>
  if x2 = x4 then
   (some (.inl (1946, [some (rV a0), some (rV a1), some (rV a2), some (rV a3), some (iV a4), none, none], [], w3)))
  else
  some (.inr (some (iV 0), w3))) else none) else none := by
  rfl
set_option maxRecDepth 100000 in
theorem eL_law_1746 (C : sC) (w : sW) (a0 a1 a2 a3 a4 : Int) : sg C mL_law 2000 1746 [some (rV a0), some (rV a1), some (rV a2), some (rV a3), some (iV a4), none, none] [] w =
  if kd w a0 = 20 ∧ 0 ≤ (w32 (a4 + 1)) ∧ (w32 (a4 + 1)) < ln w a0 then
  if kd w a0 = 20 ∧ 0 ≤ (w32 (a4 + 2)) ∧ (w32 (a4 + 2)) < ln w a0 then
  if kd w a1 = 9 then
  bI (C 141 w [rV a1, iV (gv w a0 (w32 (a4 + 1))), iV (gv w a0 (w32 (a4 + 2)))]) (fun x2 w1 =>
  if kd w1 a0 = 20 ∧ 0 ≤ (w32 (a4 + 1)) ∧ (w32 (a4 + 1)) < ln w1 a0 then
  if kd w1 a0 = 20 ∧ 0 ≤ (w32 (a4 + 2)) ∧ (w32 (a4 + 2)) < ln w1 a0 then
  if kd w1 a2 = 10 then
  bI (C 253 w1 [rV a2, iV (gv w1 a0 (w32 (a4 + 1))), iV (gv w1 a0 (w32 (a4 + 2)))]) (fun x4 w3 =>
  if x2 = x4 then
   (some (.inl (1946, [some (rV a0), some (rV a1), some (rV a2), some (rV a3), some (iV a4), none, none], [], w3)))
  else
  some (.inr (some (iV 0), w3))) else none else none else none) else none else none else none := by
  rfl
set_option maxRecDepth 100000 in
theorem eL_law_1783 (C : sC) (w : sW) (a0 a1 a2 a3 a4 : Int) : sg C mL_law 2000 1783 [some (rV a0), some (rV a1), some (rV a2), some (rV a3), some (iV a4), none, none] [] w =
  if kd w a0 = 20 ∧ 0 ≤ (w32 (a4 + 1)) ∧ (w32 (a4 + 1)) < ln w a0 then
  if kd w a1 = 9 then
  bI (C 142 w [rV a1, iV (gv w a0 (w32 (a4 + 1)))]) (fun x2 w1 =>
  if kd w1 a0 = 20 ∧ 0 ≤ (w32 (a4 + 1)) ∧ (w32 (a4 + 1)) < ln w1 a0 then
  if kd w1 a2 = 10 then
  bI (C 260 w1 [rV a2, iV (gv w1 a0 (w32 (a4 + 1)))]) (fun x4 w3 =>
  if x2 = x4 then
   (some (.inl (1946, [some (rV a0), some (rV a1), some (rV a2), some (rV a3), some (iV a4), none, none], [], w3)))
  else
  some (.inr (some (iV 0), w3))) else none else none) else none else none := by
  rfl
set_option maxRecDepth 100000 in
theorem eL_law_1808 (C : sC) (w : sW) (a0 a1 a2 a3 a4 : Int) : sg C mL_law 2000 1808 [some (rV a0), some (rV a1), some (rV a2), some (rV a3), some (iV a4), none, none] [] w =
  if kd w a0 = 20 ∧ 0 ≤ (w32 (a4 + 1)) ∧ (w32 (a4 + 1)) < ln w a0 then
  if kd w a1 = 9 then
  bI (C 143 w [rV a1, iV (gv w a0 (w32 (a4 + 1)))]) (fun x2 w1 =>
  if kd w1 a0 = 20 ∧ 0 ≤ (w32 (a4 + 1)) ∧ (w32 (a4 + 1)) < ln w1 a0 then
  if kd w1 a2 = 10 then
  bI (C 262 w1 [rV a2, iV (gv w1 a0 (w32 (a4 + 1)))]) (fun x4 w3 =>
  if x2 = x4 then
   (some (.inl (1946, [some (rV a0), some (rV a1), some (rV a2), some (rV a3), some (iV a4), none, none], [], w3)))
  else
  some (.inr (some (iV 0), w3))) else none else none) else none else none := by
  rfl
set_option maxRecDepth 100000 in
theorem eL_law_1833 (C : sC) (w : sW) (a0 a1 a2 a3 a4 : Int) : sg C mL_law 2000 1833 [some (rV a0), some (rV a1), some (rV a2), some (rV a3), some (iV a4), none, none] [] w =
  if kd w a1 = 9 then
  bI (C 144 w [rV a1]) (fun x2 w1 =>
  if kd w1 a2 = 10 then
  bI (C 273 w1 [rV a2]) (fun x4 w3 =>
  if x2 = x4 then
   (some (.inl (1946, [some (rV a0), some (rV a1), some (rV a2), some (rV a3), some (iV a4), none, none], [], w3)))
  else
  some (.inr (some (iV 0), w3))) else none) else none := by
  rfl
set_option maxRecDepth 100000 in
theorem eL_law_1846 (C : sC) (w : sW) (a0 a1 a2 a3 a4 : Int) : sg C mL_law 2000 1846 [some (rV a0), some (rV a1), some (rV a2), some (rV a3), some (iV a4), none, none] [] w =
  if kd w a0 = 20 ∧ 0 ≤ (w32 (a4 + 1)) ∧ (w32 (a4 + 1)) < ln w a0 then
  if kd w a1 = 9 then
  bI (C 145 w [rV a1, iV (gv w a0 (w32 (a4 + 1)))]) (fun x2 w1 =>
  if kd w1 a0 = 20 ∧ 0 ≤ (w32 (a4 + 1)) ∧ (w32 (a4 + 1)) < ln w1 a0 then
  if kd w1 a2 = 10 then
  bI (C 275 w1 [rV a2, iV (gv w1 a0 (w32 (a4 + 1)))]) (fun x4 w3 =>
  if x2 = x4 then
   (some (.inl (1946, [some (rV a0), some (rV a1), some (rV a2), some (rV a3), some (iV a4), none, none], [], w3)))
  else
  some (.inr (some (iV 0), w3))) else none else none) else none else none := by
  rfl
set_option maxRecDepth 100000 in
theorem eL_law_1871 (C : sC) (w : sW) (a0 a1 a2 a3 a4 : Int) : sg C mL_law 2000 1871 [some (rV a0), some (rV a1), some (rV a2), some (rV a3), some (iV a4), none, none] [] w =
  if kd w a0 = 20 ∧ 0 ≤ (w32 (a4 + 1)) ∧ (w32 (a4 + 1)) < ln w a0 then
  if kd w a1 = 9 then
  bI (C 146 w [rV a1, iV (gv w a0 (w32 (a4 + 1)))]) (fun x2 w1 =>
  if kd w1 a0 = 20 ∧ 0 ≤ (w32 (a4 + 1)) ∧ (w32 (a4 + 1)) < ln w1 a0 then
  if kd w1 a2 = 10 then
  bI (C 276 w1 [rV a2, iV (gv w1 a0 (w32 (a4 + 1)))]) (fun x4 w3 =>
  if x2 = x4 then
   (some (.inl (1946, [some (rV a0), some (rV a1), some (rV a2), some (rV a3), some (iV a4), none, none], [], w3)))
  else
  some (.inr (some (iV 0), w3))) else none else none) else none else none := by
  rfl
set_option maxRecDepth 100000 in
theorem eL_law_1896 (C : sC) (w : sW) (a0 a1 a2 a3 a4 : Int) : sg C mL_law 2000 1896 [some (rV a0), some (rV a1), some (rV a2), some (rV a3), some (iV a4), none, none] [] w =
  if kd w a0 = 20 ∧ 0 ≤ (w32 (a4 + 1)) ∧ (w32 (a4 + 1)) < ln w a0 then
  if kd w a1 = 9 then
  bI (C 147 w [rV a1, iV (gv w a0 (w32 (a4 + 1)))]) (fun x2 w1 =>
  if kd w1 a0 = 20 ∧ 0 ≤ (w32 (a4 + 1)) ∧ (w32 (a4 + 1)) < ln w1 a0 then
  if kd w1 a2 = 10 then
  bI (C 277 w1 [rV a2, iV (gv w1 a0 (w32 (a4 + 1)))]) (fun x4 w3 =>
  if x2 = x4 then
   (some (.inl (1946, [some (rV a0), some (rV a1), some (rV a2), some (rV a3), some (iV a4), none, none], [], w3)))
  else
  some (.inr (some (iV 0), w3))) else none else none) else none else none := by
  rfl
set_option maxRecDepth 100000 in
theorem eL_law_1921 (C : sC) (w : sW) (a0 a1 a2 a3 a4 : Int) : sg C mL_law 2000 1921 [some (rV a0), some (rV a1), some (rV a2), some (rV a3), some (iV a4), none, none] [] w =
  if kd w a0 = 20 ∧ 0 ≤ (w32 (a4 + 1)) ∧ (w32 (a4 + 1)) < ln w a0 then
  if kd w a1 = 9 then
  bI (C 148 w [rV a1, iV (gv w a0 (w32 (a4 + 1)))]) (fun x2 w1 =>
  if kd w1 a0 = 20 ∧ 0 ≤ (w32 (a4 + 1)) ∧ (w32 (a4 + 1)) < ln w1 a0 then
  if kd w1 a2 = 10 then
  bI (C 278 w1 [rV a2, iV (gv w1 a0 (w32 (a4 + 1)))]) (fun x4 w3 =>
  if x2 = x4 then
   (some (.inl (1946, [some (rV a0), some (rV a1), some (rV a2), some (rV a3), some (iV a4), none, none], [], w3)))
  else
  some (.inr (some (iV 0), w3))) else none else none) else none else none := by
  rfl
set_option maxRecDepth 100000 in
theorem eL_law_1946 (C : sC) (w : sW) (a0 a1 a2 a3 a4 : Int) : sg C mL_law 2000 1946 [some (rV a0), some (rV a1), some (rV a2), some (rV a3), some (iV a4), none, none] [] w =
  some (.inl (23, [some (rV a0), some (rV a1), some (rV a2), some (rV a3), some (iV (w32 (a4 + 6))), none, none], [], w)) := by
  rfl
end
