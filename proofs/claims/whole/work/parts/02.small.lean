/-! ===== the small machine: the same bytecode over whole numbers; a world is one function; calls go to an oracle ===== -/
abbrev sV : Type := Int ⊕ (Int ⊕ Int)
abbrev iV (x : Int) : sV := Sum.inl x
abbrev lV (x : Int) : sV := Sum.inr (Sum.inl x)
abbrev rV (x : Int) : sV := Sum.inr (Sum.inr x)
/-- shapes (kind, length), contents, next number, cells and slots made -/
abbrev sW : Type := (Int → Int × Int) × (Int → Int → Int) × Int × Nat × Nat
def kd (w : sW) (r : Int) : Int := (w.1 r).1
def ln (w : sW) (r : Int) : Int := (w.1 r).2
def gv (w : sW) (r k : Int) : Int := w.2.1 r k
def nx (w : sW) : Int := w.2.2.1
def uc (w : sW) : Nat := w.2.2.2.1
def us (w : sW) : Nat := w.2.2.2.2
def sv (w : sW) (r k v : Int) : sW := (w.1, (fun a j => if a = r ∧ j = k then v else w.2.1 a j), w.2.2)
def al (w : sW) (kind len : Int) (slots : Nat) : sW := ((fun a => if a = w.2.2.1 then (kind, len) else w.1 a), (fun a j => if a = w.2.2.1 then 0 else w.2.1 a j), w.2.2.1 + 1, w.2.2.2.1 + 1, w.2.2.2.2 + slots)
def bp (w : sW) (c n : Nat) : sW := (w.1, w.2.1, w.2.2.1, w.2.2.2.1 + c, w.2.2.2.2 + n)
/-- System.arraycopy -/
def cp (w : sW) (src sp dst dp n : Int) : sW := (w.1, (fun a j => if a = dst ∧ dp ≤ j ∧ j < dp + n then w.2.1 src (sp + (j - dp)) else w.2.1 a j), w.2.2)
def w32 (x : Int) : Int := (x + 2147483648) % 4294967296 - 2147483648
def w64 (x : Int) : Int := (x + 9223372036854775808) % 18446744073709551616 - 9223372036854775808
def f_ishl (x y : Int) : Int := (Int32.ofInt x <<< (Int32.ofInt y &&& 31)).toInt
def f_ishr (x y : Int) : Int := (Int32.ofInt x >>> (Int32.ofInt y &&& 31)).toInt
def f_iushr (x y : Int) : Int := ((Int32.ofInt x).toUInt32 >>> ((Int32.ofInt y).toUInt32 &&& Int32.toUInt32 31)).toInt32.toInt
def f_iand (x y : Int) : Int := (Int32.ofInt x &&& Int32.ofInt y).toInt
def f_ior (x y : Int) : Int := (Int32.ofInt x ||| Int32.ofInt y).toInt
def f_lshl (x y : Int) : Int := (Int64.ofInt x <<< ((Int32.ofInt y).toInt64 &&& 63)).toInt
def f_lshr (x y : Int) : Int := (Int64.ofInt x >>> ((Int32.ofInt y).toInt64 &&& 63)).toInt
def f_lushr (x y : Int) : Int := ((Int64.ofInt x).toUInt64 >>> ((Int32.ofInt y).toInt64.toUInt64 &&& Int64.toUInt64 63)).toInt64.toInt
def f_land (x y : Int) : Int := (Int64.ofInt x &&& Int64.ofInt y).toInt
def f_lor (x y : Int) : Int := (Int64.ofInt x ||| Int64.ofInt y).toInt
/-- a frame's numbers: locals (none: unset, or the second half of a long) -/
abbrev sL : Type := List (Option sV)
/-- where a stretch of code ends: at a cut, or at a return (rV (-7): it threw) -/
abbrev sO : Type := (Nat × sL × List sV × sW) ⊕ (Option sV × sW)
abbrev sC : Type := Nat → sW → List sV → Option (Option sV × sW)
/-- an instruction: its place; itself; its length; a target, type or method; small numbers; numbers; a switch's cases -/
abbrev sE : Type := Nat × Instr × Nat × Nat × List Nat × List Int × List (Int × Nat)
/-- a method: how many locals; what it returns (0 nothing, 1 int, 2 long, 3 reference, 4 boolean); its code; its cuts, with the locals that are kept there -/
abbrev sM : Type := Nat × Nat × List sE × List (Nat × List Bool)
def bI {α : Type} (o : Option (Option sV × sW)) (k : Int → sW → Option α) : Option α := match o with
  | some (some (.inl x), w) => k x w
  | _ => none
def bL {α : Type} (o : Option (Option sV × sW)) (k : Int → sW → Option α) : Option α := match o with
  | some (some (.inr (.inl x)), w) => k x w
  | _ => none
def bR {α : Type} (o : Option (Option sV × sW)) (k : Int → sW → Option α) : Option α := match o with
  | some (some (.inr (.inr x)), w) => if 0 ≤ x then k x w else none
  | _ => none
def bN {α : Type} (o : Option (Option sV × sW)) (k : sW → Option α) : Option α := match o with
  | some (none, w) => k w
  | _ => none
def ldI {α : Type} (ls : sL) (i : Nat) (k : Int → Option α) : Option α := match ls[i]? with
  | some (some (.inl x)) => k x
  | _ => none
def ldL {α : Type} (ls : sL) (i : Nat) (k : Int → Option α) : Option α := match ls[i]? with
  | some (some (.inr (.inl x))) => k x
  | _ => none
def ldR {α : Type} (ls : sL) (i : Nat) (k : Int → Option α) : Option α := match ls[i]? with
  | some (some (.inr (.inr x))) => k x
  | _ => none
def isL : Option (Option sV) → Bool
  | some (some (.inr (.inl _))) => true
  | _ => false
def isLp (ls : sL) : Nat → Bool
  | 0 => false
  | j + 1 => isL ls[j]?
def st1 {α : Type} (ls : sL) (i : Nat) (v : sV) (k : sL → Option α) : Option α := bif Nat.blt i ls.length && !isLp ls i then k (ls.set i (some v)) else none
def st2 {α : Type} (ls : sL) (i : Nat) (v : sV) (k : sL → Option α) : Option α := bif Nat.blt (i + 1) ls.length && !isLp ls i then k ((ls.set i (some v)).set (i + 1) none) else none
def mkV : Nat → Int → sV
  | 0, g => .inl g
  | 1, g => .inr (.inl g)
  | 2, g => .inr (.inr g)
  | _, g => .inl g
def swi {α : Type} (x : Int) (d : Nat) (k : Nat → Option α) : List (Int × Nat) → Option α
  | [] => k d
  | (c, t) :: r => if x = c then k t else swi x d k r
def catS : sV → Nat
  | .inr (.inl _) => 2
  | _ => 1
def catSum : List sV → Nat
  | [] => 0
  | v :: r => catS v + catSum r
/-- the call itself, by what the method returns -/
def cal {α : Type} (C : sC) (mid rty : Nat) (w : sW) (args rest : List sV) (k : List sV → sW → Option α) : Option α :=
  bif Nat.ble (catSum rest) 8 then
    (match rty with
    | 0 => bN (C mid w args) (fun w' => k rest w')
    | 2 => bL (C mid w args) (fun x w' => k (.inr (.inl x) :: rest) w')
    | 3 => bR (C mid w args) (fun x w' => k (.inr (.inr x) :: rest) w')
    | _ => bI (C mid w args) (fun x w' => k (.inl x :: rest) w'))
  else none
def popN : Nat → List sV → List sV → Option (List sV × List sV)
  | 0, acc, st => some (acc, st)
  | n + 1, acc, v :: st => popN n (v :: acc) st
  | _ + 1, _, [] => none
/-- a new world gets a name -/
def wl {α : Type} (w : sW) (k : sW → α) : α := k w
def cmpL (x y : Int) : Int := if x < y then -1 else if x = y then 0 else 1
/-- one instruction, with what comes behind it -/
def sx {α : Type} (C : sC) (ret : Nat) (e : Instr) (tg : Nat) (nn : List Nat) (ax : List Int) (sw : List (Int × Nat)) (pc : Nat) (ls : sL) (st : List sV) (w : sW) (kr : Option sV → sW → Option α) (k : Nat → sL → List sV → sW → Option α) : Option α :=
  match e with
  | .iconst n => k (pc + 1) ls (.inl n :: st) w
  | .bipush n => k (pc + 2) ls (.inl n :: st) w
  | .sipush n => k (pc + 3) ls (.inl n :: st) w
  | .lconst _ => (match ax with
    | [x] => k (pc + 1) ls (.inr (.inl x) :: st) w
    | _ => none)
  | .ldc _ => (match ax with
    | [x] => k (pc + 2) ls (.inl x :: st) w
    | _ => none)
  | .ldc_w _ => (match ax with
    | [x] => k (pc + 3) ls (.inl x :: st) w
    | _ => none)
  | .ldc2_w _ => (match ax with
    | [x] => k (pc + 3) ls (.inr (.inl x) :: st) w
    | _ => none)
  | .aconst_null => k (pc + 1) ls (.inr (.inr 0) :: st) w
  | .iload _ => ldI ls tg (fun x => k (pc + 2) ls (.inl x :: st) w)
  | .iload_n _ => ldI ls tg (fun x => k (pc + 1) ls (.inl x :: st) w)
  | .lload _ => ldL ls tg (fun x => k (pc + 2) ls (.inr (.inl x) :: st) w)
  | .lload_n _ => ldL ls tg (fun x => k (pc + 1) ls (.inr (.inl x) :: st) w)
  | .aload _ => ldR ls tg (fun x => k (pc + 2) ls (.inr (.inr x) :: st) w)
  | .aload_n _ => ldR ls tg (fun x => k (pc + 1) ls (.inr (.inr x) :: st) w)
  | .istore _ => (match st with
    | .inl x :: st => st1 ls tg (.inl x) (fun ls => k (pc + 2) ls st w)
    | _ => none)
  | .istore_n _ => (match st with
    | .inl x :: st => st1 ls tg (.inl x) (fun ls => k (pc + 1) ls st w)
    | _ => none)
  | .lstore _ => (match st with
    | .inr (.inl x) :: st => st2 ls tg (.inr (.inl x)) (fun ls => k (pc + 2) ls st w)
    | _ => none)
  | .lstore_n _ => (match st with
    | .inr (.inl x) :: st => st2 ls tg (.inr (.inl x)) (fun ls => k (pc + 1) ls st w)
    | _ => none)
  | .astore _ => (match st with
    | .inr (.inr x) :: st => st1 ls tg (.inr (.inr x)) (fun ls => k (pc + 2) ls st w)
    | _ => none)
  | .astore_n _ => (match st with
    | .inr (.inr x) :: st => st1 ls tg (.inr (.inr x)) (fun ls => k (pc + 1) ls st w)
    | _ => none)
  | .iinc _ n => ldI ls tg (fun x => st1 ls tg (.inl (w32 (x + n))) (fun ls => k (pc + 3) ls st w))
  | .iadd => (match st with
    | .inl y :: .inl x :: st => k (pc + 1) ls (.inl (w32 (x + y)) :: st) w
    | _ => none)
  | .isub => (match st with
    | .inl y :: .inl x :: st => k (pc + 1) ls (.inl (w32 (x - y)) :: st) w
    | _ => none)
  | .imul => (match st with
    | .inl y :: .inl x :: st => k (pc + 1) ls (.inl (w32 (x * y)) :: st) w
    | _ => none)
  | .idiv => (match st with
    | .inl y :: .inl x :: st => if y = 0 then none else k (pc + 1) ls (.inl (w32 (Int.tdiv x y)) :: st) w
    | _ => none)
  | .irem => (match st with
    | .inl y :: .inl x :: st => if y = 0 then none else k (pc + 1) ls (.inl (Int.tmod x y) :: st) w
    | _ => none)
  | .ishl => (match st with
    | .inl y :: .inl x :: st => k (pc + 1) ls (.inl (f_ishl x y) :: st) w
    | _ => none)
  | .ishr => (match st with
    | .inl y :: .inl x :: st => k (pc + 1) ls (.inl (f_ishr x y) :: st) w
    | _ => none)
  | .iushr => (match st with
    | .inl y :: .inl x :: st => k (pc + 1) ls (.inl (f_iushr x y) :: st) w
    | _ => none)
  | .iand => (match st with
    | .inl y :: .inl x :: st => k (pc + 1) ls (.inl (f_iand x y) :: st) w
    | _ => none)
  | .ior => (match st with
    | .inl y :: .inl x :: st => k (pc + 1) ls (.inl (f_ior x y) :: st) w
    | _ => none)
  | .ladd => (match st with
    | .inr (.inl y) :: .inr (.inl x) :: st => k (pc + 1) ls (.inr (.inl (w64 (x + y))) :: st) w
    | _ => none)
  | .lsub => (match st with
    | .inr (.inl y) :: .inr (.inl x) :: st => k (pc + 1) ls (.inr (.inl (w64 (x - y))) :: st) w
    | _ => none)
  | .lmul => (match st with
    | .inr (.inl y) :: .inr (.inl x) :: st => k (pc + 1) ls (.inr (.inl (w64 (x * y))) :: st) w
    | _ => none)
  | .ldiv => (match st with
    | .inr (.inl y) :: .inr (.inl x) :: st => if y = 0 then none else k (pc + 1) ls (.inr (.inl (w64 (Int.tdiv x y))) :: st) w
    | _ => none)
  | .lrem => (match st with
    | .inr (.inl y) :: .inr (.inl x) :: st => if y = 0 then none else k (pc + 1) ls (.inr (.inl (Int.tmod x y)) :: st) w
    | _ => none)
  | .land => (match st with
    | .inr (.inl y) :: .inr (.inl x) :: st => k (pc + 1) ls (.inr (.inl (f_land x y)) :: st) w
    | _ => none)
  | .lor => (match st with
    | .inr (.inl y) :: .inr (.inl x) :: st => k (pc + 1) ls (.inr (.inl (f_lor x y)) :: st) w
    | _ => none)
  | .lshl => (match st with
    | .inl y :: .inr (.inl x) :: st => k (pc + 1) ls (.inr (.inl (f_lshl x y)) :: st) w
    | _ => none)
  | .lshr => (match st with
    | .inl y :: .inr (.inl x) :: st => k (pc + 1) ls (.inr (.inl (f_lshr x y)) :: st) w
    | _ => none)
  | .lushr => (match st with
    | .inl y :: .inr (.inl x) :: st => k (pc + 1) ls (.inr (.inl (f_lushr x y)) :: st) w
    | _ => none)
  | .lcmp => (match st with
    | .inr (.inl y) :: .inr (.inl x) :: st => k (pc + 1) ls (.inl (cmpL x y) :: st) w
    | _ => none)
  | .i2l => (match st with
    | .inl x :: st => k (pc + 1) ls (.inr (.inl x) :: st) w
    | _ => none)
  | .l2i => (match st with
    | .inr (.inl x) :: st => k (pc + 1) ls (.inl (w32 x) :: st) w
    | _ => none)
  | .i2b => (match st with
    | .inl x :: st => if -128 ≤ x ∧ x < 128 then k (pc + 1) ls (.inl x :: st) w else none
    | _ => none)
  | .dup => (match st with
    | v :: st => bif Nat.beq (catS v) 1 then k (pc + 1) ls (v :: v :: st) w else none
    | _ => none)
  | .dup2 => (match st with
    | v :: u :: st => bif Nat.beq (catS v) 1 && Nat.beq (catS u) 1 then k (pc + 1) ls (v :: u :: v :: u :: st) w else none
    | _ => none)
  | .pop => (match st with
    | v :: st => bif Nat.beq (catS v) 1 then k (pc + 1) ls st w else none
    | _ => none)
  | .goto _ => k tg ls st w
  | .ifCond .eq _ => (match st with
    | .inl x :: st => if x = 0 then k tg ls st w else k (pc + 3) ls st w
    | _ => none)
  | .ifCond .ne _ => (match st with
    | .inl x :: st => if x = 0 then k (pc + 3) ls st w else k tg ls st w
    | _ => none)
  | .ifCond .lt _ => (match st with
    | .inl x :: st => if x < 0 then k tg ls st w else k (pc + 3) ls st w
    | _ => none)
  | .ifCond .ge _ => (match st with
    | .inl x :: st => if x < 0 then k (pc + 3) ls st w else k tg ls st w
    | _ => none)
  | .ifCond .gt _ => (match st with
    | .inl x :: st => if 0 < x then k tg ls st w else k (pc + 3) ls st w
    | _ => none)
  | .ifCond .le _ => (match st with
    | .inl x :: st => if 0 < x then k (pc + 3) ls st w else k tg ls st w
    | _ => none)
  | .if_icmp .eq _ => (match st with
    | .inl y :: .inl x :: st => if x = y then k tg ls st w else k (pc + 3) ls st w
    | _ => none)
  | .if_icmp .ne _ => (match st with
    | .inl y :: .inl x :: st => if x = y then k (pc + 3) ls st w else k tg ls st w
    | _ => none)
  | .if_icmp .lt _ => (match st with
    | .inl y :: .inl x :: st => if x < y then k tg ls st w else k (pc + 3) ls st w
    | _ => none)
  | .if_icmp .ge _ => (match st with
    | .inl y :: .inl x :: st => if x < y then k (pc + 3) ls st w else k tg ls st w
    | _ => none)
  | .if_icmp .gt _ => (match st with
    | .inl y :: .inl x :: st => if y < x then k tg ls st w else k (pc + 3) ls st w
    | _ => none)
  | .if_icmp .le _ => (match st with
    | .inl y :: .inl x :: st => if y < x then k (pc + 3) ls st w else k tg ls st w
    | _ => none)
  | .ifnull _ => (match st with
    | .inr (.inr r) :: st => if r = 0 then k tg ls st w else k (pc + 3) ls st w
    | _ => none)
  | .ifnonnull _ => (match st with
    | .inr (.inr r) :: st => if r = 0 then k (pc + 3) ls st w else k tg ls st w
    | _ => none)
  | .if_acmp .eq _ => (match st with
    | .inr (.inr y) :: .inr (.inr x) :: st => if x ≤ 23 ∧ y ≤ 23 then (if x = y then k tg ls st w else k (pc + 3) ls st w) else none
    | _ => none)
  | .if_acmp .ne _ => (match st with
    | .inr (.inr y) :: .inr (.inr x) :: st => if x ≤ 23 ∧ y ≤ 23 then (if x = y then k (pc + 3) ls st w else k tg ls st w) else none
    | _ => none)
  | .tableswitch _ _ _ _ => (match st with
    | .inl x :: st => swi x tg (fun t => k t ls st w) sw
    | _ => none)
  | .lookupswitch _ _ => (match st with
    | .inl x :: st => swi x tg (fun t => k t ls st w) sw
    | _ => none)
  | .getfield _ => (match ax, st with
    | [ci, fk], .inr (.inr r) :: st => if kd w r = ci then k (pc + 3) ls (mkV tg (gv w r fk) :: st) w else none
    | _, _ => none)
  | .putfield _ => (match ax, tg, st with
    | [ci, fk], 0, .inl v :: .inr (.inr r) :: st => if kd w r = ci then k (pc + 3) ls st (sv w r fk v) else none
    | [ci, fk], 1, .inr (.inl v) :: .inr (.inr r) :: st => if kd w r = ci then k (pc + 3) ls st (sv w r fk v) else none
    | [ci, fk], 2, .inr (.inr v) :: .inr (.inr r) :: st => if kd w r = ci then k (pc + 3) ls st (sv w r fk v) else none
    | [ci, fk], 3, .inl v :: .inr (.inr r) :: st => if kd w r = ci ∧ (v = 0 ∨ v = 1) then k (pc + 3) ls st (sv w r fk v) else none
    | _, _, _ => none)
  | .getstatic _ => (match ax with
    | [id] => k (pc + 3) ls (.inr (.inr id) :: st) w
    | _ => none)
  | .iaload => (match st with
    | .inl i :: .inr (.inr r) :: st => if kd w r = 20 ∧ 0 ≤ i ∧ i < ln w r then k (pc + 1) ls (.inl (gv w r i) :: st) w else none
    | _ => none)
  | .baload => (match st with
    | .inl i :: .inr (.inr r) :: st => if (kd w r = 21 ∨ kd w r = 23) ∧ 0 ≤ i ∧ i < ln w r then k (pc + 1) ls (.inl (gv w r i) :: st) w else none
    | _ => none)
  | .laload => (match st with
    | .inl i :: .inr (.inr r) :: st => if kd w r = 22 ∧ 0 ≤ i ∧ i < ln w r then k (pc + 1) ls (.inr (.inl (gv w r i)) :: st) w else none
    | _ => none)
  | .aaload => (match st with
    | .inl i :: .inr (.inr r) :: st => if (24 ≤ kd w r ∧ kd w r ≤ 27) ∧ 0 ≤ i ∧ i < ln w r then k (pc + 1) ls (.inr (.inr (gv w r i)) :: st) w else none
    | _ => none)
  | .iastore => (match st with
    | .inl v :: .inl i :: .inr (.inr r) :: st => if (kd w r = 20 ∧ 32 ≤ r) ∧ 0 ≤ i ∧ i < ln w r then k (pc + 1) ls st (sv w r i v) else none
    | _ => none)
  | .bastore => (match st with
    | .inl v :: .inl i :: .inr (.inr r) :: st => if ((kd w r = 21 ∧ -128 ≤ v ∧ v < 128) ∨ (kd w r = 23 ∧ (v = 0 ∨ v = 1))) ∧ 0 ≤ i ∧ i < ln w r then k (pc + 1) ls st (sv w r i v) else none
    | _ => none)
  | .lastore => (match st with
    | .inr (.inl v) :: .inl i :: .inr (.inr r) :: st => if kd w r = 22 ∧ 0 ≤ i ∧ i < ln w r then k (pc + 1) ls st (sv w r i v) else none
    | _ => none)
  | .aastore => (match st with
    | .inr (.inr v) :: .inl i :: .inr (.inr r) :: st => if ((kd w r = 24 ∧ kd w v = 5) ∨ (kd w r = 25 ∧ kd w v = 8) ∨ (kd w r = 26 ∧ kd w v = 7) ∨ (kd w r = 27 ∧ kd w v = 30 ∧ 32 ≤ r)) ∧ 0 ≤ i ∧ i < ln w r then k (pc + 1) ls st (sv w r i v) else none
    | _ => none)
  | .arraylength => (match st with
    | .inr (.inr r) :: st => if 20 ≤ kd w r ∧ kd w r ≤ 27 then k (pc + 1) ls (.inl (ln w r) :: st) w else none
    | _ => none)
  | .new _ => (match ax with
    | [ci] => k (pc + 3) ls (.inr (.inr (nx w)) :: st) (al w ci 0 tg)
    | _ => kr (some (.inr (.inr (-7)))) (bp w 1 tg))
  | .newarray _ => (match ax, st with
    | [kind], .inl n :: st => if 0 ≤ n ∧ n ≤ 100000 then k (pc + 2) ls (.inr (.inr (nx w)) :: st) (al w kind n n.toNat) else none
    | _, _ => none)
  | .anewarray _ => (match ax, st with
    | [kind], .inl n :: st => if 0 ≤ n ∧ n ≤ 100000 then k (pc + 3) ls (.inr (.inr (nx w)) :: st) (al w kind n n.toNat) else none
    | _, _ => none)
  | .invokevirtual _ => (match ax, nn with
    | [ci], [rty, n] => (match popN n [] st with
      | some (as, .inr (.inr r) :: rest) => if kd w r = ci then cal C tg rty w (.inr (.inr r) :: as) rest (fun st w => k (pc + 3) ls st w) else none
      | _ => none)
    | _, _ => none)
  | .invokespecial _ => (match ax, nn with
    | [ci], [n] => (match popN n [] st with
      | some (as, .inr (.inr r) :: rest) => if kd w r = ci then cal C tg 0 w (.inr (.inr r) :: as) rest (fun st w => k (pc + 3) ls st w) else none
      | _ => none)
    | [ci], [] => (match st with
      | .inr (.inr r) :: st => if kd w r = ci then k (pc + 3) ls st w else none
      | _ => none)
    | _, _ => none)
  | .invokestatic _ => (match nn with
    | [rty, n] => (match popN n [] st with
      | some (as, rest) => cal C tg rty w as rest (fun st w => k (pc + 3) ls st w)
      | _ => none)
    | [0] => (match st with
      | .inl n :: .inl dp :: .inr (.inr d) :: .inl sp :: .inr (.inr s) :: st => if ((kd w s = 20 ∧ kd w d = 20) ∨ (kd w s = 21 ∧ kd w d = 21)) ∧ 32 ≤ s ∧ 32 ≤ d ∧ 0 ≤ sp ∧ 0 ≤ dp ∧ 0 ≤ n ∧ sp + n ≤ ln w s ∧ dp + n ≤ ln w d then k (pc + 3) ls st (cp w s sp d dp n) else none
      | _ => none)
    | [1] => (match st with
      | .inl y :: .inl x :: st => k (pc + 3) ls (.inl (if x < y then y else x) :: st) w
      | _ => none)
    | [2] => (match st with
      | .inl y :: .inl x :: st => k (pc + 3) ls (.inl (if y < x then y else x) :: st) w
      | _ => none)
    | _ => none)
  | .ireturn => (match st with
    | [.inl x] => bif Nat.beq ret 4 then (if x = 0 ∨ x = 1 then kr (some (.inl x)) w else none) else kr (some (.inl x)) w
    | _ => none)
  | .lreturn => (match st with
    | [.inr (.inl x)] => kr (some (.inr (.inl x))) w
    | _ => none)
  | .areturn => (match st with
    | [.inr (.inr x)] => kr (some (.inr (.inr x))) w
    | _ => none)
  | .return_ => kr none w
  | _ => none
def ft : List sE → Nat → Option sE
  | [], _ => none
  | e :: r, pc => bif Nat.beq e.1 pc then some e else ft r pc
def fm : List (Nat × List Bool) → Nat → Option (List Bool)
  | [], _ => none
  | a :: r, n => bif Nat.beq a.1 n then some a.2 else fm r n
def mask : List Bool → sL → sL
  | true :: r, v :: l => v :: mask r l
  | false :: r, _ :: l => none :: mask r l
  | _, _ => []
def cutO (c : Option (List Bool)) (pc : Nat) (ls : sL) (st : List sV) (w : sW) (k : Option sO) : Option sO := match c with
  | some b => some (.inl (pc, mask b ls, st, w))
  | none => k
/-- a stretch of code, to the next cut -/
def sg (C : sC) (M : sM) : Nat → Nat → sL → List sV → sW → Option sO
  | 0, _, _, _, _ => none
  | n + 1, pc, ls, st, w => match ft M.2.2.1 pc with
    | none => none
    | some e => sx C M.2.1 e.2.1 e.2.2.2.1 e.2.2.2.2.1 e.2.2.2.2.2.1 e.2.2.2.2.2.2 pc ls st w (fun v w => some (.inr (v, w))) (fun pc ls st w => cutO (fm M.2.2.2 pc) pc ls st w (sg C M n pc ls st w))
/-- stretch by stretch -/
def itr (C : sC) (M : sM) : Nat → Nat × sL × List sV × sW → Option (Option sV × sW)
  | 0, _ => none
  | n + 1, c => match sg C M 2000 c.1 c.2.1 c.2.2.1 c.2.2.2 with
    | some (.inr r) => some r
    | some (.inl c') => itr C M n c'
    | none => none
def Rn (C : sC) (M : sM) (c : Nat × sL × List sV × sW) (r : Option sV × sW) : Prop := ∃ n, itr C M n c = some r
theorem Rn.ret {C : sC} {M : sM} {pc : Nat} {ls : sL} {st : List sV} {w : sW} {r : Option sV × sW} (h : sg C M 2000 pc ls st w = some (.inr r)) : Rn C M (pc, ls, st, w) r := ⟨1, by simp [itr, h]⟩
theorem Rn.cut {C : sC} {M : sM} {pc : Nat} {ls : sL} {st : List sV} {w : sW} {c' : Nat × sL × List sV × sW} {r : Option sV × sW} (h : sg C M 2000 pc ls st w = some (.inl c')) (k : Rn C M c' r) : Rn C M (pc, ls, st, w) r := by
  obtain ⟨n, hn⟩ := k
  exact ⟨n + 1, by simp [itr, h, hn]⟩
theorem itr_mono {C : sC} {M : sM} : ∀ (n : Nat) (c : Nat × sL × List sV × sW) (r : Option sV × sW) (k : Nat), itr C M n c = some r → itr C M (n + k) c = some r
  | 0, c, r, k, h => by simp [itr] at h
  | n + 1, c, r, k, h => by
    rw [show n + 1 + k = (n + k) + 1 by omega]
    simp only [itr] at h ⊢
    cases hs : sg C M 2000 c.1 c.2.1 c.2.2.1 c.2.2.2 with
    | none => rw [hs] at h; simp at h
    | some o =>
      rw [hs] at h
      cases o with
      | inr r' => exact h
      | inl c' => exact itr_mono n c' r k h
theorem Rn.det {C : sC} {M : sM} {c : Nat × sL × List sV × sW} {r r' : Option sV × sW} (h : Rn C M c r) (h' : Rn C M c r') : r = r' := by
  obtain ⟨n, hn⟩ := h
  obtain ⟨k, hk⟩ := h'
  have h1 := itr_mono n c r k hn
  have h2 := itr_mono k c r' n hk
  rw [Nat.add_comm] at h2
  exact Option.some.inj (h1.symm.trans h2)
def slot2 : List sV → sL
  | [] => []
  | .inr (.inl x) :: r => some (.inr (.inl x)) :: none :: slot2 r
  | v :: r => some v :: slot2 r
def ent (n : Nat) (as : List sV) : sL := slot2 as ++ List.replicate (n - (slot2 as).length) none
noncomputable def runs (C : sC) (M : sM) (w : sW) (as : List sV) : Option (Option sV × sW) := @dite _ (∃ r, Rn C M (0, ent M.1 as, [], w) r) (Classical.propDecidable _) (fun h => some h.choose) (fun _ => none)
theorem runs_iff {C : sC} {M : sM} {w : sW} {as : List sV} {r : Option sV × sW} : runs C M w as = some r ↔ Rn C M (0, ent M.1 as, [], w) r := by
  unfold runs
  constructor
  · intro h
    by_cases q : ∃ r, Rn C M (0, ent M.1 as, [], w) r
    · rw [dif_pos q] at h
      have := q.choose_spec
      rw [Option.some.inj h] at this
      exact this
    · rw [dif_neg q] at h
      cases h
  · intro h
    have q : ∃ r, Rn C M (0, ent M.1 as, [], w) r := ⟨r, h⟩
    rw [dif_pos q, Rn.det q.choose_spec h]
