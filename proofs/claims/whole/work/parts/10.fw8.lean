abbrev JT : Type := Nat → LsT → List AV → Mem → Prop
def swP (x : Int32) (J : Nat → Prop) : List (Int × Nat) → Nat → Prop
  | [], d => J d
  | (k, t) :: l, d => (x = iN k → J t) ∧ (¬ x = iN k → swP x J l d)
def tpairs (pc : Nat) : Int → List Int → List (Int × Nat)
  | _, [] => []
  | k, o :: t => (k, ((pc : Int) + o).toNat) :: tpairs pc (k + 1) t
def lpairs (pc : Nat) : List (Int × Int) → List (Int × Nat)
  | [] => []
  | (k, o) :: t => (k, ((pc : Int) + o).toNat) :: lpairs pc t
def wCmp (c : ClassFile.Cond) (x y : Int32) (a b : Prop) : Prop := match c with
  | .eq => (x = y → a) ∧ (¬ x = y → b)
  | .ne => (¬ x = y → a) ∧ (x = y → b)
  | .lt => (x < y → a) ∧ (¬ x < y → b)
  | .ge => (y ≤ x → a) ∧ (¬ y ≤ x → b)
  | .gt => (y < x → a) ∧ (¬ y < x → b)
  | .le => (x ≤ y → a) ∧ (¬ x ≤ y → b)
def wRetI (mi : MI) (K : AV → Mem → Prop) (x : Int32) (M : Mem) : Prop := match mi.2.2.2.1 with
  | some .int => K (.int x, 0) M
  | some .boolean => (x = 0 ∨ x = 1) ∧ K (.int x, 0) M
  | _ => False
def cpyM (M : Mem) (r0 c0 r1 c1 sp dp n : Nat) : Mem := updC M r1 c1 (va_cpy (M r0 c0) (M r1 c1) sp dp n)
def wCpy (st : List AV) (M : Mem) : CtR := match st with
  | (.int n, _) :: (.int dp, _) :: (.ref r1, d1) :: (.int sp, _) :: (.ref r0, d0) :: t =>
    if csum t ≤ 8 ∧ (((dsc d0).2.1 = 100 ∧ (dsc d1).2.1 = 100) ∨ ((dsc d0).2.1 = 101 ∧ (dsc d1).2.1 = 101)) then
      some ([¬ sp < 0, ¬ dp < 0, ¬ n < 0, sp.toNatClampNeg + n.toNatClampNeg ≤ dlen d0, dp.toNatClampNeg + n.toNatClampNeg ≤ dlen d1], t, cpyM M r0 (dsc d0).1 r1 (dsc d1).1 sp.toNatClampNeg dp.toNatClampNeg n.toNatClampNeg)
    else none
  | _ => none
def wCall (l : Launch) (E : EnvT) (d : Nat) (cal : MI) (ar : Nat) (nx : List AV → Mem → Prop) (st : List AV) (M : Mem) : Prop :=
  if ar ≤ st.length ∧ csum (st.drop ar) ≤ 8 then CT l E (d - 1) cal (st.take ar).reverse M (fun r M' => nx (pushR cal r (st.drop ar)) M') else False
def recvOK (cal : MI) (v : Option AV) : Bool := match v with
  | some (.ref _, dd) => decide (cal.2.2.2.2.2.1 = 1 ∧ (dsc dd).2.1 = cal.2.2.2.2.2.2.1 ∨ cal.2.2.2.2.2.1 = 2 ∧ dd = 999)
  | _ => false
def wpX (l : Launch) (E : EnvT) (d : Nat) (mi : MI) (K : AV → Mem → Prop) (J : JT) (op : OpT) (nx : LsT → List AV → Mem → Prop) (ls : LsT) (st : List AV) (M : Mem) : Prop := match op.2.1 with
  | .goto _ => J op.2.2.2.1 ls st M
  | .if_icmp c _ => (match st with
    | (.int y, _) :: (.int x, _) :: t => wCmp c x y (J op.2.2.2.1 ls t M) (nx ls t M)
    | _ => False)
  | .ifCond c _ => (match st with
    | (.int x, _) :: t => wCmp c x 0 (J op.2.2.2.1 ls t M) (nx ls t M)
    | _ => False)
  | .tableswitch df lo _ offs => (match st with
    | (.int x, _) :: t => swP x (fun tg => J tg ls t M) (tpairs op.1 lo offs.toList) ((op.1 : Int) + df).toNat
    | _ => False)
  | .lookupswitch df ps => (match st with
    | (.int x, _) :: t => swP x (fun tg => J tg ls t M) (lpairs op.1 ps.toList) ((op.1 : Int) + df).toNat
    | _ => False)
  | .ireturn => (match st with
    | [(.int x, _)] => wRetI mi K x M
    | _ => False)
  | .lreturn => (match st with
    | [(.long x, _)] => (if rk mi.2.2.2.1 = 2 then K (.long x, 0) M else False)
    | _ => False)
  | .areturn => (match st with
    | [(.ref x, 999)] => (if rk mi.2.2.2.1 = 3 then K (.ref x, 999) M else False)
    | _ => False)
  | .return_ => (match st with
    | [] => (if rk mi.2.2.2.1 = 0 then K (.null, 0) M else False)
    | _ => False)
  | .invokestatic _ => if op.2.2.2.2.2.2.2.2.2.2.2.1 = 3 then (match wCpy st M with
      | some (P, t, M') => andL P (nx ls t M')
      | none => False)
    else if op.2.2.2.2.2.2.2.2.2.2.2.1 = 0 then wCall l E d op.2.2.2.2.2.2 op.2.2.2.2.2.2.2.2.2.2.1 (nx ls) st M else False
  | .invokevirtual _ => if recvOK op.2.2.2.2.2.2 (st[op.2.2.2.2.2.2.2.2.2.2.1]?) then wCall l E d op.2.2.2.2.2.2 (op.2.2.2.2.2.2.2.2.2.2.1 + 1) (nx ls) st M else False
  | _ => False
def wpGo (l : Launch) (E : EnvT) (d : Nat) (mi : MI) (K : AV → Mem → Prop) (J : JT) : List OpT → LsT → List AV → Mem → Prop
  | [], _, _, _ => False
  | op :: rest, ls, st, M => if op.2.2.1 = 0 then J op.1 ls st M else match stepS op.2.1 op.2.2.2.1 op.2.2.2.2.1 ls st with
    | some q => wpGo l E d mi K J rest q.1 q.2 M
    | none => match stepC op.2.1 op.2.2.2.1 op.2.2.2.2.1 st M with
      | some q => andL q.1 (wpGo l E d mi K J rest ls q.2.1 q.2.2)
      | none => wpX l E d mi K J op (wpGo l E d mi K J rest) ls st M
abbrev BtT : Type := List (Nat × List Nat × Bool × List OpT)
def bfind : BtT → Nat → Option (List Nat × Bool × List OpT)
  | [], _ => none
  | b :: t, pc => if b.1 = pc then some b.2 else bfind t pc
def wpCut (l : Launch) (E : EnvT) (d : Nat) (mi : MI) (K : AV → Mem → Prop) (pc : Nat) (keys : List Nat) (ls : LsT) (st : List AV) (M : Mem) : Prop := match lpick ls keys with
  | some ls' => G l E d mi pc ls' st M K
  | none => False
def wp (l : Launch) (E : EnvT) (d : Nat) (mi : MI) (K : AV → Mem → Prop) (Bt : BtT) : Nat → JT
  | 0, _, _, _, _ => False
  | f + 1, pc, ls, st, M => match bfind Bt pc with
    | none => False
    | some b => if b.2.1 then wpCut l E d mi K pc b.1 ls st M else wpGo l E d mi K (wp l E d mi K Bt f) b.2.2 ls st M
def okCpy (mi : MI) (i h : Nat) (cal : MI) : Bool := decide (lw_tbl[h]? = some (.methodLink mi.1.cls i arraycopyName)) && (decide (lw_tbl[cal.2.2.2.2.2.2.2.getD 0 0]? = some (.native arraycopyName)) && (decide (lw_tbl[cal.2.2.2.2.2.2.2.getD 1 0]? = some (.static arraycopyName)) && decide (lw_tbl[cal.2.2.2.2.2.2.2.getD 2 0]? = some (.initialized "java/lang/System"))))
def okX (mi : MI) (op : OpT) : Bool := match op.2.1 with
  | .goto o => decide ((op.1 : Int) + o = (op.2.2.2.1 : Int))
  | .if_icmp _ o => decide ((op.1 : Int) + o = (op.2.2.2.1 : Int))
  | .ifCond _ o => decide ((op.1 : Int) + o = (op.2.2.2.1 : Int))
  | .tableswitch df lo hi offs => decide (0 ≤ (op.1 : Int) + df) && (offs.toList.all (fun o => decide (0 ≤ (op.1 : Int) + o)) && (decide (-1000 ≤ lo ∧ hi ≤ 1000) && decide (hi + 1 = lo + offs.toList.length)))
  | .lookupswitch df ps => decide (0 ≤ (op.1 : Int) + df) && (ps.toList.all (fun q => decide (0 ≤ (op.1 : Int) + q.2 ∧ -1000 ≤ q.1 ∧ q.1 ≤ 1000)) && (ps.toList.zip (ps.toList.drop 1)).all (fun (a, next) => a.1 < next.1))
  | .invokestatic i => if op.2.2.2.2.2.2.2.2.2.2.2.1 = 3 then okCpy mi i op.2.2.2.2.2.1 op.2.2.2.2.2.2 else okM op.2.2.2.2.2.2 && decide (lw_tbl[op.2.2.2.2.2.1]? = some (.methodLink mi.1.cls i op.2.2.2.2.2.2.1))
  | .invokevirtual i => okM op.2.2.2.2.2.2 && decide (lw_tbl[op.2.2.2.2.2.1]? = some (.methodLink mi.1.cls i op.2.2.2.2.2.2.1))
  | _ => true
def okLen (ins : Instr) (len : Nat) : Bool := match ins with
  | .tableswitch _ _ _ _ => true
  | .lookupswitch _ _ => true
  | _ => decide (len = ilen ins)
def okB (mi : MI) (op : OpT) : Bool := decide (decode mi.2.1 op.1 = .ok (op.2.1, op.2.2.1)) && (okLen op.2.1 op.2.2.1 && (okS mi op.2.1 op.2.2.2.1 op.2.2.2.2.1 op.2.2.2.2.2.1 && (okC mi op.2.1 op.2.2.2.1 op.2.2.2.2.1 op.2.2.2.2.2.1 && okX mi op)))
def okBlk (mi : MI) : Nat → List OpT → Bool
  | _, [] => true
  | pc, op :: t => decide (op.1 = pc) && (decide (op.2.2.1 = 0) || (okB mi op && okBlk mi (pc + op.2.2.1) t))
