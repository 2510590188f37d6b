/-! ===== the small machine: the same bytecode over whole numbers; a world is one function; calls go to an oracle ===== -/
abbrev sV : Type := Int ⊕ (Int ⊕ Int)
abbrev iV (x : Int) : sV := Sum.inl x
abbrev lV (x : Int) : sV := Sum.inr (Sum.inl x)
abbrev rV (x : Int) : sV := Sum.inr (Sum.inr x)
/-- shapes (kind, length), contents, next number, cells and slots made -/
abbrev sW : Type := (Int → Int × Int) × (Int → Int → Int) × Int × Nat × Nat
def kd (w : sW) (r : Int) : Int := (w.1 r).1
def ln (w : sW) (r : Int) : Int := (w.1 r).2
def gv (w : sW) (r k : Int) : Int := w.2.1 r k
def nx (w : sW) : Int := w.2.2.1
def uc (w : sW) : Nat := w.2.2.2.1
def us (w : sW) : Nat := w.2.2.2.2
def sv (w : sW) (r k v : Int) : sW := (w.1, (fun a j => if a = r ∧ j = k then v else w.2.1 a j), w.2.2)
def al (w : sW) (kind len : Int) (slots : Nat) : sW := ((fun a => if a = w.2.2.1 then (kind, len) else w.1 a), (fun a j => if a = w.2.2.1 then 0 else w.2.1 a j), w.2.2.1 + 1, w.2.2.2.1 + 1, w.2.2.2.2 + slots)
def bp (w : sW) (c n : Nat) : sW := (w.1, w.2.1, w.2.2.1, w.2.2.2.1 + c, w.2.2.2.2 + n)
/-- System.arraycopy -/
def cp (w : sW) (src sp dst dp n : Int) : sW := (w.1, (fun a j => if a = dst ∧ dp ≤ j ∧ j < dp + n then w.2.1 src (sp + (j - dp)) else w.2.1 a j), w.2.2)
def w32 (x : Int) : Int := (x + 2147483648) % 4294967296 - 2147483648
def w64 (x : Int) : Int := (x + 9223372036854775808) % 18446744073709551616 - 9223372036854775808
def f_ishl (x y : Int) : Int := (Int32.ofInt x <<< (Int32.ofInt y &&& 31)).toInt
def f_ishr (x y : Int) : Int := (Int32.ofInt x >>> (Int32.ofInt y &&& 31)).toInt
def f_iushr (x y : Int) : Int := ((Int32.ofInt x).toUInt32 >>> ((Int32.ofInt y).toUInt32 &&& Int32.toUInt32 31)).toInt32.toInt
def f_iand (x y : Int) : Int := (Int32.ofInt x &&& Int32.ofInt y).toInt
def f_ior (x y : Int) : Int := (Int32.ofInt x ||| Int32.ofInt y).toInt
def f_lshl (x y : Int) : Int := (Int64.ofInt x <<< ((Int32.ofInt y).toInt64 &&& 63)).toInt
def f_lshr (x y : Int) : Int := (Int64.ofInt x >>> ((Int32.ofInt y).toInt64 &&& 63)).toInt
def f_lushr (x y : Int) : Int := ((Int64.ofInt x).toUInt64 >>> ((Int32.ofInt y).toInt64.toUInt64 &&& Int64.toUInt64 63)).toInt64.toInt
def f_land (x y : Int) : Int := (Int64.ofInt x &&& Int64.ofInt y).toInt
def f_lor (x y : Int) : Int := (Int64.ofInt x ||| Int64.ofInt y).toInt
/-- a frame's numbers: locals (none: unset, or the second half of a long) -/
abbrev sL : Type := List (Option sV)
/-- where a stretch of code ends: at a cut, or at a return (rV (-7): it threw) -/
abbrev sO : Type := (Nat × sL × List sV × sW) ⊕ (Option sV × sW)
abbrev sC : Type := Nat → sW → List sV → Option (Option sV × sW)
/-- an instruction: its place; itself; its length; a target, type or method; small numbers; numbers; a switch's cases -/
abbrev sE : Type := Nat × Instr × Nat × Nat × List Nat × List Int × List (Int × Nat)
/-- a method: how many locals; what it returns (0 nothing, 1 int, 2 long, 3 reference, 4 boolean); its code; its cuts, with the locals that are kept there -/
abbrev sM : Type := Nat × Nat × List sE × List (Nat × List Bool)
def bI {α : Type} (o : Option (Option sV × sW)) (k : Int → sW → Option α) : Option α := match o with
  | some (some (.inl x), w) => k x w
  | _ => none
def bL {α : Type} (o : Option (Option sV × sW)) (k : Int → sW → Option α) : Option α := match o with
  | some (some (.inr (.inl x)), w) => k x w
  | _ => none
def bR {α : Type} (o : Option (Option sV × sW)) (k : Int → sW → Option α) : Option α := match o with
  | some (some (.inr (.inr x)), w) => if 0 ≤ x then k x w else none
  | _ => none
def bN {α : Type} (o : Option (Option sV × sW)) (k : sW → Option α) : Option α := match o with
  | some (none, w) => k w
  | _ => none
def ldI {α : Type} (ls : sL) (i : Nat) (k : Int → Option α) : Option α := match ls[i]? with
  | some (some (.inl x)) => k x
  | _ => none
def ldL {α : Type} (ls : sL) (i : Nat) (k : Int → Option α) : Option α := match ls[i]? with
  | some (some (.inr (.inl x))) => k x
  | _ => none
def ldR {α : Type} (ls : sL) (i : Nat) (k : Int → Option α) : Option α := match ls[i]? with
  | some (some (.inr (.inr x))) => k x
  | _ => none
def isL : Option (Option sV) → Bool
  | some (some (.inr (.inl _))) => true
  | _ => false
def isLp (ls : sL) : Nat → Bool
  | 0 => false
  | j + 1 => isL ls[j]?
def st1 {α : Type} (ls : sL) (i : Nat) (v : sV) (k : sL → Option α) : Option α := bif Nat.blt i ls.length && !isLp ls i then k (ls.set i (some v)) else none
def st2 {α : Type} (ls : sL) (i : Nat) (v : sV) (k : sL → Option α) : Option α := bif Nat.blt (i + 1) ls.length && !isLp ls i then k ((ls.set i (some v)).set (i + 1) none) else none
def mkV : Nat → Int → sV
  | 0, g => .inl g
  | 1, g => .inr (.inl g)
  | 2, g => .inr (.inr g)
  | _, g => .inl g
def swi {α : Type} (x : Int) (d : Nat) (k : Nat → Option α) : List (Int × Nat) → Option α
  | [] => k d
  | (c, t) :: r => if x = c then k t else swi x d k r
def catS : sV → Nat
  | .inr (.inl _) => 2
  | _ => 1
def catSum : List sV → Nat
  | [] => 0
  | v :: r => catS v + catSum r
/-- the call itself, by what the method returns -/
def cal {α : Type} (C : sC) (mid rty : Nat) (w : sW) (args rest : List sV) (k : List sV → sW → Option α) : Option α :=
  bif Nat.ble (catSum rest) 8 then
    (match rty with
    | 0 => bN (C mid w args) (fun w' => k rest w')
    | 2 => bL (C mid w args) (fun x w' => k (.inr (.inl x) :: rest) w')
    | 3 => bR (C mid w args) (fun x w' => k (.inr (.inr x) :: rest) w')
    | _ => bI (C mid w args) (fun x w' => k (.inl x :: rest) w'))
  else none
def popN : Nat → List sV → List sV → Option (List sV × List sV)
  | 0, acc, st => some (acc, st)
  | n + 1, acc, v :: st => popN n (v :: acc) st
  | _ + 1, _, [] => none
/-- a new world gets a name -/
def wl {α : Type} (w : sW) (k : sW → α) : α := k w
def cmpL (x y : Int) : Int := if x < y then -1 else if x = y then 0 else 1
def pI {α : Type} (st : List sV) (f : Int → List sV → Option α) : Option α := match st with
  | .inl x :: r => f x r
  | _ => none
def pL {α : Type} (st : List sV) (f : Int → List sV → Option α) : Option α := match st with
  | .inr (.inl x) :: r => f x r
  | _ => none
def pR {α : Type} (st : List sV) (f : Int → List sV → Option α) : Option α := match st with
  | .inr (.inr x) :: r => f x r
  | _ => none
def p1 {α : Type} (st : List sV) (f : sV → List sV → Option α) : Option α := match st with
  | v :: r => bif Nat.beq (catS v) 1 then f v r else none
  | _ => none
def p0 {α : Type} (st : List sV) (f : Option α) : Option α := match st with
  | [] => f
  | _ => none
def pN {α : Type} (n : Nat) (st : List sV) (f : List sV → List sV → Option α) : Option α := match popN n [] st with
  | some (as, r) => f as r
  | none => none
def aC {α : Type} (ax : List Int) (f0 : Option α) (f1 : Int → Option α) (f2 : Int → Int → Option α) : Option α := match ax with
  | [] => f0
  | [x] => f1 x
  | [x, y] => f2 x y
  | _ => none
def nC {α : Type} (nn : List Nat) (f0 : Option α) (f1 : Nat → Option α) (f2 : Nat → Nat → Option α) : Option α := match nn with
  | [] => f0
  | [x] => f1 x
  | [x, y] => f2 x y
  | _ => none
def tC {α : Type} (t : Nat) (f0 f1 f2 f3 : Option α) : Option α := match t with
  | 0 => f0
  | 1 => f1
  | 2 => f2
  | 3 => f3
  | _ => none
def c8 {α : Type} (st : List sV) (f : Option α) : Option α := bif Nat.ble (catSum st) 8 then f else none
def no1 {α : Type} : Int → Option α := fun _ => none
def no2 {α : Type} : Int → Int → Option α := fun _ _ => none
def nn1 {α : Type} : Nat → Option α := fun _ => none
def nn2 {α : Type} : Nat → Nat → Option α := fun _ _ => none
/-- one instruction, with what comes behind it -/
def sx {α : Type} (C : sC) (ret : Nat) (e : Instr) (tg : Nat) (nn : List Nat) (ax : List Int) (sw : List (Int × Nat)) (pc : Nat) (ls : sL) (st : List sV) (w : sW) (kr : Option sV → sW → Option α) (k : Nat → sL → List sV → sW → Option α) : Option α :=
  match e with
  | .iconst n => k (pc + 1) ls (.inl n :: st) w
  | .bipush n => k (pc + 2) ls (.inl n :: st) w
  | .sipush n => k (pc + 3) ls (.inl n :: st) w
  | .lconst _ => aC ax none (fun x => k (pc + 1) ls (.inr (.inl x) :: st) w) no2
  | .ldc _ => aC ax none (fun x => k (pc + 2) ls (.inl x :: st) w) no2
  | .ldc_w _ => aC ax none (fun x => k (pc + 3) ls (.inl x :: st) w) no2
  | .ldc2_w _ => aC ax none (fun x => k (pc + 3) ls (.inr (.inl x) :: st) w) no2
  | .aconst_null => k (pc + 1) ls (.inr (.inr 0) :: st) w
  | .iload _ => ldI ls tg (fun x => k (pc + 2) ls (.inl x :: st) w)
  | .iload_n _ => ldI ls tg (fun x => k (pc + 1) ls (.inl x :: st) w)
  | .lload _ => ldL ls tg (fun x => k (pc + 2) ls (.inr (.inl x) :: st) w)
  | .lload_n _ => ldL ls tg (fun x => k (pc + 1) ls (.inr (.inl x) :: st) w)
  | .aload _ => ldR ls tg (fun x => k (pc + 2) ls (.inr (.inr x) :: st) w)
  | .aload_n _ => ldR ls tg (fun x => k (pc + 1) ls (.inr (.inr x) :: st) w)
  | .istore _ => pI st (fun x st => st1 ls tg (.inl x) (fun ls => k (pc + 2) ls st w))
  | .istore_n _ => pI st (fun x st => st1 ls tg (.inl x) (fun ls => k (pc + 1) ls st w))
  | .lstore _ => pL st (fun x st => st2 ls tg (.inr (.inl x)) (fun ls => k (pc + 2) ls st w))
  | .lstore_n _ => pL st (fun x st => st2 ls tg (.inr (.inl x)) (fun ls => k (pc + 1) ls st w))
  | .astore _ => pR st (fun x st => st1 ls tg (.inr (.inr x)) (fun ls => k (pc + 2) ls st w))
  | .astore_n _ => pR st (fun x st => st1 ls tg (.inr (.inr x)) (fun ls => k (pc + 1) ls st w))
  | .iinc _ n => ldI ls tg (fun x => st1 ls tg (.inl (w32 (x + n))) (fun ls => k (pc + 3) ls st w))
  | .iadd => pI st (fun y st => pI st (fun x st => k (pc + 1) ls (.inl (w32 (x + y)) :: st) w))
  | .isub => pI st (fun y st => pI st (fun x st => k (pc + 1) ls (.inl (w32 (x - y)) :: st) w))
  | .imul => pI st (fun y st => pI st (fun x st => k (pc + 1) ls (.inl (w32 (x * y)) :: st) w))
  | .ishl => pI st (fun y st => pI st (fun x st => k (pc + 1) ls (.inl (f_ishl x y) :: st) w))
  | .ishr => pI st (fun y st => pI st (fun x st => k (pc + 1) ls (.inl (f_ishr x y) :: st) w))
  | .iushr => pI st (fun y st => pI st (fun x st => k (pc + 1) ls (.inl (f_iushr x y) :: st) w))
  | .iand => pI st (fun y st => pI st (fun x st => k (pc + 1) ls (.inl (f_iand x y) :: st) w))
  | .ior => pI st (fun y st => pI st (fun x st => k (pc + 1) ls (.inl (f_ior x y) :: st) w))
  | .idiv => pI st (fun y st => pI st (fun x st => if y = 0 then none else k (pc + 1) ls (.inl (w32 (Int.tdiv x y)) :: st) w))
  | .irem => pI st (fun y st => pI st (fun x st => if y = 0 then none else k (pc + 1) ls (.inl (Int.tmod x y) :: st) w))
  | .ladd => pL st (fun y st => pL st (fun x st => k (pc + 1) ls (.inr (.inl (w64 (x + y))) :: st) w))
  | .lsub => pL st (fun y st => pL st (fun x st => k (pc + 1) ls (.inr (.inl (w64 (x - y))) :: st) w))
  | .lmul => pL st (fun y st => pL st (fun x st => k (pc + 1) ls (.inr (.inl (w64 (x * y))) :: st) w))
  | .land => pL st (fun y st => pL st (fun x st => k (pc + 1) ls (.inr (.inl (f_land x y)) :: st) w))
  | .lor => pL st (fun y st => pL st (fun x st => k (pc + 1) ls (.inr (.inl (f_lor x y)) :: st) w))
  | .ldiv => pL st (fun y st => pL st (fun x st => if y = 0 then none else k (pc + 1) ls (.inr (.inl (w64 (Int.tdiv x y))) :: st) w))
  | .lrem => pL st (fun y st => pL st (fun x st => if y = 0 then none else k (pc + 1) ls (.inr (.inl (Int.tmod x y)) :: st) w))
  | .lshl => pI st (fun y st => pL st (fun x st => k (pc + 1) ls (.inr (.inl (f_lshl x y)) :: st) w))
  | .lshr => pI st (fun y st => pL st (fun x st => k (pc + 1) ls (.inr (.inl (f_lshr x y)) :: st) w))
  | .lushr => pI st (fun y st => pL st (fun x st => k (pc + 1) ls (.inr (.inl (f_lushr x y)) :: st) w))
  | .lcmp => pL st (fun y st => pL st (fun x st => k (pc + 1) ls (.inl (cmpL x y) :: st) w))
  | .i2l => pI st (fun x st => k (pc + 1) ls (.inr (.inl x) :: st) w)
  | .l2i => pL st (fun x st => k (pc + 1) ls (.inl (w32 x) :: st) w)
  | .i2b => pI st (fun x st => if -128 ≤ x ∧ x < 128 then k (pc + 1) ls (.inl x :: st) w else none)
  | .dup => p1 st (fun v st => k (pc + 1) ls (v :: v :: st) w)
  | .dup2 => p1 st (fun v st => p1 st (fun u st => k (pc + 1) ls (v :: u :: v :: u :: st) w))
  | .pop => p1 st (fun _ st => k (pc + 1) ls st w)
  | .goto _ => k tg ls st w
  | .ifCond .eq _ => pI st (fun x st => if x = 0 then k tg ls st w else k (pc + 3) ls st w)
  | .ifCond .ne _ => pI st (fun x st => if x = 0 then k (pc + 3) ls st w else k tg ls st w)
  | .ifCond .lt _ => pI st (fun x st => if x < 0 then k tg ls st w else k (pc + 3) ls st w)
  | .ifCond .ge _ => pI st (fun x st => if x < 0 then k (pc + 3) ls st w else k tg ls st w)
  | .ifCond .gt _ => pI st (fun x st => if 0 < x then k tg ls st w else k (pc + 3) ls st w)
  | .ifCond .le _ => pI st (fun x st => if 0 < x then k (pc + 3) ls st w else k tg ls st w)
  | .if_icmp .eq _ => pI st (fun y st => pI st (fun x st => if x = y then k tg ls st w else k (pc + 3) ls st w))
  | .if_icmp .ne _ => pI st (fun y st => pI st (fun x st => if x = y then k (pc + 3) ls st w else k tg ls st w))
  | .if_icmp .lt _ => pI st (fun y st => pI st (fun x st => if x < y then k tg ls st w else k (pc + 3) ls st w))
  | .if_icmp .ge _ => pI st (fun y st => pI st (fun x st => if x < y then k (pc + 3) ls st w else k tg ls st w))
  | .if_icmp .gt _ => pI st (fun y st => pI st (fun x st => if y < x then k tg ls st w else k (pc + 3) ls st w))
  | .if_icmp .le _ => pI st (fun y st => pI st (fun x st => if y < x then k (pc + 3) ls st w else k tg ls st w))
  | .ifnull _ => pR st (fun r st => if r = 0 then k tg ls st w else k (pc + 3) ls st w)
  | .ifnonnull _ => pR st (fun r st => if r = 0 then k (pc + 3) ls st w else k tg ls st w)
  | .if_acmp .eq _ => pR st (fun y st => pR st (fun x st => if x ≤ 23 ∧ y ≤ 23 then (if x = y then k tg ls st w else k (pc + 3) ls st w) else none))
  | .if_acmp .ne _ => pR st (fun y st => pR st (fun x st => if x ≤ 23 ∧ y ≤ 23 then (if x = y then k (pc + 3) ls st w else k tg ls st w) else none))
  | .tableswitch _ _ _ _ => pI st (fun x st => swi x tg (fun t => k t ls st w) sw)
  | .lookupswitch _ _ => pI st (fun x st => swi x tg (fun t => k t ls st w) sw)
  | .getfield _ => aC ax none no1 (fun ci fk => pR st (fun r st => if kd w r = ci then k (pc + 3) ls (mkV tg (gv w r fk) :: st) w else none))
  | .putfield _ => aC ax none no1 (fun ci fk => tC tg (pI st (fun v st => pR st (fun r st => if kd w r = ci then k (pc + 3) ls st (sv w r fk v) else none))) (pL st (fun v st => pR st (fun r st => if kd w r = ci then k (pc + 3) ls st (sv w r fk v) else none))) (pR st (fun v st => pR st (fun r st => if kd w r = ci then k (pc + 3) ls st (sv w r fk v) else none))) (pI st (fun v st => pR st (fun r st => if kd w r = ci ∧ (v = 0 ∨ v = 1) then k (pc + 3) ls st (sv w r fk v) else none))))
  | .getstatic _ => aC ax none (fun id => k (pc + 3) ls (.inr (.inr id) :: st) w) no2
  | .iaload => pI st (fun i st => pR st (fun r st => if kd w r = 20 ∧ 0 ≤ i ∧ i < ln w r then k (pc + 1) ls (.inl (gv w r i) :: st) w else none))
  | .baload => pI st (fun i st => pR st (fun r st => if (kd w r = 21 ∨ kd w r = 23) ∧ 0 ≤ i ∧ i < ln w r then k (pc + 1) ls (.inl (gv w r i) :: st) w else none))
  | .laload => pI st (fun i st => pR st (fun r st => if kd w r = 22 ∧ 0 ≤ i ∧ i < ln w r then k (pc + 1) ls (.inr (.inl (gv w r i)) :: st) w else none))
  | .aaload => pI st (fun i st => pR st (fun r st => if (24 ≤ kd w r ∧ kd w r ≤ 27) ∧ 0 ≤ i ∧ i < ln w r then k (pc + 1) ls (.inr (.inr (gv w r i)) :: st) w else none))
  | .iastore => pI st (fun v st => pI st (fun i st => pR st (fun r st => if (kd w r = 20 ∧ 32 ≤ r) ∧ 0 ≤ i ∧ i < ln w r then k (pc + 1) ls st (sv w r i v) else none)))
  | .bastore => pI st (fun v st => pI st (fun i st => pR st (fun r st => if ((kd w r = 21 ∧ -128 ≤ v ∧ v < 128) ∨ (kd w r = 23 ∧ (v = 0 ∨ v = 1))) ∧ 0 ≤ i ∧ i < ln w r then k (pc + 1) ls st (sv w r i v) else none)))
  | .lastore => pL st (fun v st => pI st (fun i st => pR st (fun r st => if kd w r = 22 ∧ 0 ≤ i ∧ i < ln w r then k (pc + 1) ls st (sv w r i v) else none)))
  | .aastore => pR st (fun v st => pI st (fun i st => pR st (fun r st => if ((kd w r = 24 ∧ kd w v = 5) ∨ (kd w r = 25 ∧ kd w v = 8) ∨ (kd w r = 26 ∧ kd w v = 7) ∨ (kd w r = 27 ∧ kd w v = 30 ∧ 32 ≤ r)) ∧ 0 ≤ i ∧ i < ln w r then k (pc + 1) ls st (sv w r i v) else none)))
  | .arraylength => pR st (fun r st => if 20 ≤ kd w r ∧ kd w r ≤ 27 then k (pc + 1) ls (.inl (ln w r) :: st) w else none)
  | .new _ => aC ax (p0 st (kr (some (.inr (.inr (-7)))) (bp w 1 tg))) (fun ci => k (pc + 3) ls (.inr (.inr (nx w)) :: st) (al w ci 0 tg)) no2
  | .newarray _ => aC ax none (fun kind => pI st (fun n st => if 0 ≤ n ∧ n ≤ 100000 then k (pc + 2) ls (.inr (.inr (nx w)) :: st) (al w kind n n.toNat) else none)) no2
  | .anewarray _ => aC ax none (fun kind => pI st (fun n st => if 0 ≤ n ∧ n ≤ 100000 then k (pc + 3) ls (.inr (.inr (nx w)) :: st) (al w kind n n.toNat) else none)) no2
  | .invokevirtual _ => aC ax none (fun ci => nC nn none nn1 (fun rty n => pN n st (fun as st => pR st (fun r st => if kd w r = ci then cal C tg rty w (.inr (.inr r) :: as) st (fun st w => k (pc + 3) ls st w) else none)))) no2
  | .invokespecial _ => aC ax none (fun ci => nC nn (pR st (fun r st => if kd w r = ci then c8 st (k (pc + 3) ls st w) else none)) (fun n => pN n st (fun as st => pR st (fun r st => if kd w r = ci then cal C tg 0 w (.inr (.inr r) :: as) st (fun st w => k (pc + 3) ls st w) else none))) nn2) no2
  | .invokestatic _ => nC nn none (fun q => tC q (pI st (fun n st => pI st (fun dp st => pR st (fun d st => pI st (fun sp st => pR st (fun s st => if ((kd w s = 20 ∧ kd w d = 20) ∨ (kd w s = 21 ∧ kd w d = 21)) ∧ 32 ≤ s ∧ 32 ≤ d ∧ 0 ≤ sp ∧ 0 ≤ dp ∧ 0 ≤ n ∧ sp + n ≤ ln w s ∧ dp + n ≤ ln w d then c8 st (k (pc + 3) ls st (cp w s sp d dp n)) else none)))))) (pI st (fun y st => pI st (fun x st => c8 st (k (pc + 3) ls (.inl (if x < y then y else x) :: st) w)))) (pI st (fun y st => pI st (fun x st => c8 st (k (pc + 3) ls (.inl (if y < x then y else x) :: st) w)))) none) (fun rty n => pN n st (fun as st => cal C tg rty w as st (fun st w => k (pc + 3) ls st w)))
  | .ireturn => pI st (fun x st => p0 st (bif Nat.beq ret 4 then (if x = 0 ∨ x = 1 then kr (some (.inl x)) w else none) else kr (some (.inl x)) w))
  | .lreturn => pL st (fun x st => p0 st (kr (some (.inr (.inl x))) w))
  | .areturn => pR st (fun x st => p0 st (kr (some (.inr (.inr x))) w))
  | .return_ => p0 st (kr none w)
  | _ => none
def ft : List sE → Nat → Option sE
  | [], _ => none
  | e :: r, pc => bif Nat.beq e.1 pc then some e else ft r pc
def fm : List (Nat × List Bool) → Nat → Option (List Bool)
  | [], _ => none
  | a :: r, n => bif Nat.beq a.1 n then some a.2 else fm r n
def mask : List Bool → sL → sL
  | true :: r, v :: l => v :: mask r l
  | false :: r, _ :: l => none :: mask r l
  | _, _ => []
def cutO (c : Option (List Bool)) (pc : Nat) (ls : sL) (st : List sV) (w : sW) (k : Option sO) : Option sO := match c with
  | some b => some (.inl (pc, mask b ls, st, w))
  | none => k
/-- a stretch of code, to the next cut -/
def sg (C : sC) (M : sM) : Nat → Nat → sL → List sV → sW → Option sO
  | 0, _, _, _, _ => none
  | n + 1, pc, ls, st, w => match ft M.2.2.1 pc with
    | none => none
    | some e => sx C M.2.1 e.2.1 e.2.2.2.1 e.2.2.2.2.1 e.2.2.2.2.2.1 e.2.2.2.2.2.2 pc ls st w (fun v w => some (.inr (v, w))) (fun pc ls st w => cutO (fm M.2.2.2 pc) pc ls st w (sg C M n pc ls st w))
/-- stretch by stretch -/
def itr (C : sC) (M : sM) : Nat → Nat × sL × List sV × sW → Option (Option sV × sW)
  | 0, _ => none
  | n + 1, c => match sg C M 2000 c.1 c.2.1 c.2.2.1 c.2.2.2 with
    | some (.inr r) => some r
    | some (.inl c') => itr C M n c'
    | none => none
def Rn (C : sC) (M : sM) (c : Nat × sL × List sV × sW) (r : Option sV × sW) : Prop := ∃ n, itr C M n c = some r
theorem Rn.ret {C : sC} {M : sM} {pc : Nat} {ls : sL} {st : List sV} {w : sW} {r : Option sV × sW} (h : sg C M 2000 pc ls st w = some (.inr r)) : Rn C M (pc, ls, st, w) r := ⟨1, by simp [itr, h]⟩
theorem Rn.cut {C : sC} {M : sM} {pc : Nat} {ls : sL} {st : List sV} {w : sW} {c' : Nat × sL × List sV × sW} {r : Option sV × sW} (h : sg C M 2000 pc ls st w = some (.inl c')) (k : Rn C M c' r) : Rn C M (pc, ls, st, w) r := by
  obtain ⟨n, hn⟩ := k
  exact ⟨n + 1, by simp [itr, h, hn]⟩
theorem itr_mono {C : sC} {M : sM} : ∀ (n : Nat) (c : Nat × sL × List sV × sW) (r : Option sV × sW) (k : Nat), itr C M n c = some r → itr C M (n + k) c = some r
  | 0, c, r, k, h => by simp [itr] at h
  | n + 1, c, r, k, h => by
    rw [show n + 1 + k = (n + k) + 1 by omega]
    simp only [itr] at h ⊢
    cases hs : sg C M 2000 c.1 c.2.1 c.2.2.1 c.2.2.2 with
    | none => rw [hs] at h; simp at h
    | some o =>
      rw [hs] at h
      cases o with
      | inr r' => exact h
      | inl c' => exact itr_mono n c' r k h
theorem Rn.det {C : sC} {M : sM} {c : Nat × sL × List sV × sW} {r r' : Option sV × sW} (h : Rn C M c r) (h' : Rn C M c r') : r = r' := by
  obtain ⟨n, hn⟩ := h
  obtain ⟨k, hk⟩ := h'
  have h1 := itr_mono n c r k hn
  have h2 := itr_mono k c r' n hk
  rw [Nat.add_comm] at h2
  exact Option.some.inj (h1.symm.trans h2)
def slot2 : List sV → sL
  | [] => []
  | .inr (.inl x) :: r => some (.inr (.inl x)) :: none :: slot2 r
  | v :: r => some v :: slot2 r
def ent (n : Nat) (as : List sV) : sL := slot2 as ++ List.replicate (n - (slot2 as).length) none
noncomputable def runs (C : sC) (M : sM) (w : sW) (as : List sV) : Option (Option sV × sW) := @dite _ ((slot2 as).length ≤ M.1 ∧ ∃ r, Rn C M (0, ent M.1 as, [], w) r) (Classical.propDecidable _) (fun h => some h.2.choose) (fun _ => none)
theorem runs_iff {C : sC} {M : sM} {w : sW} {as : List sV} {r : Option sV × sW} : runs C M w as = some r ↔ (slot2 as).length ≤ M.1 ∧ Rn C M (0, ent M.1 as, [], w) r := by
  unfold runs
  constructor
  · intro h
    by_cases q : (slot2 as).length ≤ M.1 ∧ ∃ r, Rn C M (0, ent M.1 as, [], w) r
    · rw [dif_pos q] at h
      have := q.2.choose_spec
      rw [Option.some.inj h] at this
      exact ⟨q.1, this⟩
    · rw [dif_neg q] at h
      cases h
  · intro h
    have q : (slot2 as).length ≤ M.1 ∧ ∃ r, Rn C M (0, ent M.1 as, [], w) r := ⟨h.1, r, h.2⟩
    rw [dif_pos q, Rn.det q.2.choose_spec h.2]
