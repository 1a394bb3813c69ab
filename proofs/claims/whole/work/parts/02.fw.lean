abbrev AV : Type := Value × Nat
abbrev Mem : Type := Nat → Nat → Nat → Int
abbrev MI : Type := MethodName × ByteArray × Nat × Option FieldType × Nat × Nat × Nat × List Nat
abbrev OpT : Type := Nat × Instr × Nat × Nat × Int × Nat × MI
abbrev LsT : Type := List (Nat × AV)
abbrev EnvT : Type := va_G × (Nat → Nat → Nat) × (Nat → ClassId) × (Nat → Nat) × (Nat → Nat) × Nat
def iN (z : Int) : Int32 := Int32.ofInt z
def lI (z : Int) : Int64 := Int64.ofInt z
def iR (x y : Int32) : Int32 := x - x / y * y
def lR (x y : Int64) : Int64 := x - x / y * y
def upd3 (M : Mem) (r c k : Nat) (v : Int) : Mem := fun r' c' k' => if r' = r ∧ c' = c ∧ k' = k then v else M r' c' k'
def updC (M : Mem) (r c : Nat) (f : Nat → Int) : Mem := fun r' c' => if r' = r ∧ c' = c then f else M r' c'
def toI (v : AV) : Int32 := match v.1 with
  | .int x => x
  | _ => 0
def toL (v : AV) : Int64 := match v.1 with
  | .long x => x
  | _ => 0
def toR (v : AV) : Nat := match v.1 with
  | .ref x => x
  | _ => 0
def lget : LsT → Nat → Option AV
  | [], _ => none
  | (j, v) :: t, k => if j = k then some v else lget t k
def lset (ls : LsT) (k : Nat) (v : AV) : LsT := (k, v) :: ls.filter (fun q => !(q.1 == k) && !(q.1 + 1 == k && q.2.1.category == 2))
def lset2 (ls : LsT) (k : Nat) (v : AV) : LsT := (k, v) :: ls.filter (fun q => !(q.1 == k) && (!(q.1 == k + 1) && !(q.1 + 1 == k && q.2.1.category == 2)))
def lpick (ls : LsT) : List Nat → Option LsT
  | [] => some []
  | k :: ks => match lget ls k with
    | none => none
    | some v => match lpick ls ks with
      | none => none
      | some r => some ((k, v) :: r)
abbrev StR : Type := Option (LsT × List AV)
def sK (ls : LsT) (st : List AV) (v : Value) : StR := some (ls, (v, 0) :: st)
def sLoadI (ls : LsT) (st : List AV) (k : Nat) : StR := match lget ls k with
  | some (.int x, _) => some (ls, (.int x, 0) :: st)
  | _ => none
def sLoadL (ls : LsT) (st : List AV) (k : Nat) : StR := match lget ls k with
  | some (.long x, _) => some (ls, (.long x, 0) :: st)
  | _ => none
def sLoadA (ls : LsT) (st : List AV) (k : Nat) : StR := match lget ls k with
  | some (.ref x, d) => some (ls, (.ref x, d) :: st)
  | _ => none
def sStoI (ls : LsT) (st : List AV) (k : Nat) : StR := match st with
  | (.int x, _) :: t => some (lset ls k (.int x, 0), t)
  | _ => none
def sStoL (ls : LsT) (st : List AV) (k : Nat) : StR := match st with
  | (.long x, _) :: t => some (lset2 ls k (.long x, 0), t)
  | _ => none
def sStoA (ls : LsT) (st : List AV) (k : Nat) : StR := match st with
  | (.ref x, d) :: t => some (lset ls k (.ref x, d), t)
  | _ => none
def sInc (ls : LsT) (st : List AV) (k : Nat) (n : Int) : StR := match lget ls k with
  | some (.int x, _) => some (lset ls k (.int (x + iN n), 0), st)
  | _ => none
def sBin (f : Int32 → Int32 → Int32) (ls : LsT) (st : List AV) : StR := match st with
  | (.int y, _) :: (.int x, _) :: t => some (ls, (.int (f x y), 0) :: t)
  | _ => none
def sBinL (f : Int64 → Int64 → Int64) (ls : LsT) (st : List AV) : StR := match st with
  | (.long y, _) :: (.long x, _) :: t => some (ls, (.long (f x y), 0) :: t)
  | _ => none
def sShL (f : Int64 → Int32 → Int64) (ls : LsT) (st : List AV) : StR := match st with
  | (.int y, _) :: (.long x, _) :: t => some (ls, (.long (f x y), 0) :: t)
  | _ => none
def sUn (f : Int32 → Int32) (ls : LsT) (st : List AV) : StR := match st with
  | (.int x, _) :: t => some (ls, (.int (f x), 0) :: t)
  | _ => none
def sIL (ls : LsT) (st : List AV) : StR := match st with
  | (.int x, _) :: t => some (ls, (.long x.toInt64, 0) :: t)
  | _ => none
def sLI (ls : LsT) (st : List AV) : StR := match st with
  | (.long x, _) :: t => some (ls, (.int x.toInt32, 0) :: t)
  | _ => none
def sCmp (ls : LsT) (st : List AV) : StR := match st with
  | (.long y, _) :: (.long x, _) :: t => some (ls, (.int (lg_cmp x y), 0) :: t)
  | _ => none
def sDup (ls : LsT) (st : List AV) : StR := match st with
  | (.int x, d) :: t => some (ls, (.int x, d) :: (.int x, d) :: t)
  | (.ref x, d) :: t => some (ls, (.ref x, d) :: (.ref x, d) :: t)
  | _ => none
def sPop (ls : LsT) (st : List AV) : StR := match st with
  | (.int _, _) :: t => some (ls, t)
  | _ => none
def sDup2 (ls : LsT) (st : List AV) : StR := match st with
  | (.int x, d) :: (.ref y, d') :: t => some (ls, (.int x, d) :: (.ref y, d') :: (.int x, d) :: (.ref y, d') :: t)
  | _ => none
/-- what leaves memory alone and asks for nothing -/
def stepS (ins : Instr) (aux : Nat) (z : Int) (ls : LsT) (st : List AV) : StR := match ins with
  | .iconst n => sK ls st (.int (iN n))
  | .bipush n => sK ls st (.int (iN n))
  | .sipush n => sK ls st (.int (iN n))
  | .lconst n => sK ls st (.long (lI (n : Nat)))
  | .ldc _ => if aux = 1 then sK ls st (.int (iN z)) else if aux = 2 then some (ls, (.ref z.toNat, 999) :: st) else none
  | .ldc_w _ => if aux = 1 then sK ls st (.int (iN z)) else none
  | .ldc2_w _ => if aux = 1 then sK ls st (.long (lI z)) else none
  | .iload k => sLoadI ls st k
  | .iload_n k => sLoadI ls st k
  | .lload k => sLoadL ls st k
  | .lload_n k => sLoadL ls st k
  | .aload k => sLoadA ls st k
  | .aload_n k => sLoadA ls st k
  | .istore k => sStoI ls st k
  | .istore_n k => sStoI ls st k
  | .lstore k => sStoL ls st k
  | .lstore_n k => sStoL ls st k
  | .astore k => sStoA ls st k
  | .astore_n k => sStoA ls st k
  | .iinc k n => sInc ls st k n
  | .iadd => sBin (fun x y => x + y) ls st
  | .isub => sBin (fun x y => x - y) ls st
  | .imul => sBin (fun x y => x * y) ls st
  | .iand => sBin (fun x y => x &&& y) ls st
  | .ior => sBin (fun x y => x ||| y) ls st
  | .ixor => sBin (fun x y => x ^^^ y) ls st
  | .ishl => sBin (fun x y => x <<< (y &&& 31)) ls st
  | .ishr => sBin (fun x y => x >>> (y &&& 31)) ls st
  | .iushr => sBin (fun x y => (x.toUInt32 >>> (y.toUInt32 &&& Int32.toUInt32 31)).toInt32) ls st
  | .ineg => sUn (fun x => -x) ls st
  | .i2b => sUn (fun x => x.toInt8.toInt32) ls st
  | .i2s => sUn (fun x => x.toInt16.toInt32) ls st
  | .i2c => sUn (fun x => (x.toUInt32 % 65536).toInt32) ls st
  | .ladd => sBinL (fun x y => x + y) ls st
  | .lsub => sBinL (fun x y => x - y) ls st
  | .lmul => sBinL (fun x y => x * y) ls st
  | .land => sBinL (fun x y => x &&& y) ls st
  | .lor => sBinL (fun x y => x ||| y) ls st
  | .lshl => sShL (fun x y => x <<< (y.toInt64 &&& 63)) ls st
  | .i2l => sIL ls st
  | .l2i => sLI ls st
  | .lcmp => sCmp ls st
  | .dup => sDup ls st
  | .dup2 => sDup2 ls st
  | .pop => sPop ls st
  | _ => none
