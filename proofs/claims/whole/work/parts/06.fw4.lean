theorem iN_toInt (x : Int32) : iN x.toInt = x := Int32.ofInt_toInt x
theorem lI_toInt (x : Int64) : lI x.toInt = x := Int64.ofInt_toInt x
theorem flds_get (E : EnvT) (M : Mem) (r c : Nat) : ∀ (pl : List (Nat × Nat)) (j k : Nat), (flds E M r c j pl)[k]? = (pl[k]?).map (fval E M r c (j + k))
  | [], j, k => by simp [flds]
  | q :: t, j, 0 => by simp [flds]
  | q :: t, j, k + 1 => by
    show (flds E M r c (j + 1) t)[k]? = (t[k]?).map _
    rw [flds_get E M r c t (j + 1) k]
    congr 2
    omega
theorem fval_congr (E : EnvT) {M M' : Mem} {r c k : Nat} (q : Nat × Nat) (h : M' r c k = M r c k) : fval E M' r c k q = fval E M r c k q := by
  unfold fval
  rw [h]
theorem flds_congr (E : EnvT) {M M' : Mem} {r c : Nat} (pl : List (Nat × Nat)) (j : Nat) (h : M' r c = M r c) : flds E M' r c j pl = flds E M r c j pl := by
  apply List.ext_getElem?
  intro k
  rw [flds_get, flds_get]
  congr 1
  funext q
  exact fval_congr E q (by rw [h])
theorem cellOf_congr (E : EnvT) {M M' : Mem} {r dd : Nat} (h : M' r (dsc dd).1 = M r (dsc dd).1) : cellOf E M' r dd = cellOf E M r dd := by
  unfold cellOf
  rw [h, flds_congr E _ _ h]
theorem flds_len (E : EnvT) (M : Mem) (r c : Nat) : ∀ (pl : List (Nat × Nat)) (j : Nat), (flds E M r c j pl).length = pl.length
  | [], _ => rfl
  | _ :: t, j => by simp [flds, flds_len E M r c t (j + 1)]
theorem flds_set (E : EnvT) {M M' : Mem} {r c k : Nat} {pl : List (Nat × Nat)} {q : Nat × Nat} {v : Value} (hq : pl[k]? = some q) (hv : fval E M' r c k q = v) (h : ∀ j, j ≠ k → M' r c j = M r c j) : (flds E M r c 0 pl).set k v = flds E M' r c 0 pl := by
  apply List.ext_getElem?
  intro j
  rw [List.getElem?_set, flds_get, flds_get, flds_len]
  simp only [Nat.zero_add]
  split
  · rename_i e
    subst e
    rw [hq, if_pos (List.getElem?_eq_some_iff.mp hq).1]
    simp [hv]
  · rename_i e
    congr 1
    funext q
    exact (fval_congr E q (h j (fun z => e z.symm))).symm
theorem CL_apart : ∀ p ∈ CL, ∀ q ∈ CL, p.1 = q.1 → (dsc p.2).1 = (dsc q.2).1 → p.2 = q.2 := by decide +kernel
theorem CL_not999 : ∀ p ∈ CL, p.2 ≠ 999 := by decide +kernel
theorem WL_set {E : EnvT} {M M' : Mem} {r dd q0 : Nat} {ce : va_E} (hq : CL[q0]? = some (r, dd)) (h1 : cellOf E M' r dd = ce) (h2 : ∀ r' c', ¬ (r' = r ∧ c' = (dsc dd).1) → M' r' c' = M r' c') : (WL E M).set q0 (al E r dd, ce) = WL E M' := by
  apply List.ext_getElem?
  intro j
  rw [List.getElem?_set, WL_at, WL_at]
  split
  · rename_i e
    subst e
    rw [hq]
    have hlt : q0 < (WL E M).length := by
      unfold WL
      rw [List.length_map]
      exact (List.getElem?_eq_some_iff.mp hq).1
    simp [hlt, h1]
  · rename_i e
    cases hj : CL[j]? with
    | none => rfl
    | some q =>
      obtain ⟨r', dd'⟩ := q
      simp only [Option.map_some]
      rw [cellOf_congr E (h2 r' (dsc dd').1 ?_)]
      rintro ⟨rfl, ec⟩
      have e1 := CL_apart (r', dd') (List.mem_of_getElem? hj) (r', dd) (List.mem_of_getElem? hq) rfl ec
      subst e1
      have hj' := (List.getElem?_eq_some_iff.mp hj)
      have hq' := (List.getElem?_eq_some_iff.mp hq)
      exact e ((List.getElem_inj (h₀ := hq'.1) (h₁ := hj'.1) CL_nd).mp (hq'.2.trans hj'.2.symm))
theorem TV_CL {r dd : Nat} (h : TV (.ref r, dd)) (hd : dd ≠ 999) : ∃ q0 : Nat, CL[q0]? = some (r, dd) := by
  rcases h with ⟨h, -⟩ | ⟨-, h⟩
  · exact absurd h hd
  · exact List.getElem?_of_mem h
theorem cv_al (E : EnvT) {r dd : Nat} (hd : dd ≠ 999) : cv E (.ref r, dd) = .ref (al E r dd) := by
  show (if dd = 999 then Value.ref (eK E r) else Value.ref (al E r dd)) = _
  rw [if_neg hd]
theorem tag_ne {dd n : Nat} (h : (dsc dd).2.1 = n) (hn : n ≠ 999) : dd ≠ 999 := by
  intro e
  rw [e] at h
  exact hn (h.symm.trans (by decide +kernel))
abbrev CtR : Type := Option (List Prop × List AV × Mem)
def cDivI (st : List AV) (M : Mem) : CtR := match st with
  | (.int y, _) :: (.int x, _) :: t => some ([¬ y = 0], (.int (x / y), 0) :: t, M)
  | _ => none
def cRemI (st : List AV) (M : Mem) : CtR := match st with
  | (.int y, _) :: (.int x, _) :: t => some ([¬ y = 0], (.int (iR x y), 0) :: t, M)
  | _ => none
def cDivL (st : List AV) (M : Mem) : CtR := match st with
  | (.long y, _) :: (.long x, _) :: t => some ([¬ y = 0], (.long (x / y), 0) :: t, M)
  | _ => none
def cRemL (st : List AV) (M : Mem) : CtR := match st with
  | (.long y, _) :: (.long x, _) :: t => some ([¬ y = 0], (.long (lR x y), 0) :: t, M)
  | _ => none
def fget (M : Mem) (r c k : Nat) (q : Nat × Nat) : List Prop × AV := match q.1 with
  | 0 => ([], (.int (iN (M r c k)), 0))
  | 1 => ([], (.long (lI (M r c k)), 0))
  | 2 => ([], (.int (iN (M r c k)), 0))
  | 3 => ([], (.ref r, q.2))
  | 4 => ([], (.ref (q.2 / 1000), q.2 % 1000))
  | _ => ([((M r c k).toNat, q.2) ∈ CL], (.ref (M r c k).toNat, q.2))
def cGet (k ci : Nat) (st : List AV) (M : Mem) : CtR := match st with
  | (.ref r, dd) :: t => if (dsc dd).2.1 = ci then (match (dsc dd).2.2[k]? with
    | some q => some ((fget M r (dsc dd).1 k q).1, (fget M r (dsc dd).1 k q).2 :: t, M)
    | none => none) else none
  | _ => none
def fput (M : Mem) (r c k : Nat) (q : Nat × Nat) (v : AV) : Option (List Prop × Mem) := match q.1 with
  | 0 => (match v.1 with
    | .int x => some ([], upd3 M r c k x.toInt)
    | _ => none)
  | 1 => (match v.1 with
    | .long x => some ([], upd3 M r c k x.toInt)
    | _ => none)
  | 2 => (match v.1 with
    | .int x => some ([x = 0 ∨ x = 1], upd3 M r c k x.toInt)
    | _ => none)
  | 5 => (match v.1 with
    | .ref x => if v.2 = q.2 then some ([], upd3 M r c k (x : Int)) else none
    | _ => none)
  | _ => none
def cPut (k ci : Nat) (st : List AV) (M : Mem) : CtR := match st with
  | v :: (.ref r, dd) :: t => if (dsc dd).2.1 = ci then (match (dsc dd).2.2[k]? with
    | some q => (match fput M r (dsc dd).1 k q v with
      | some (P, M') => some (P, t, M')
      | none => none)
    | none => none) else none
  | _ => none
def dlen (dd : Nat) : Nat := ((dsc dd).2.2.headD (0, 0)).1
def cAldI (tag : Nat) (st : List AV) (M : Mem) : CtR := match st with
  | (.int i, _) :: (.ref r, dd) :: t => if (dsc dd).2.1 = tag then some ([vp_in i (dlen dd)], (.int (iN (M r (dsc dd).1 i.toNatClampNeg)), 0) :: t, M) else none
  | _ => none
def cAldL (st : List AV) (M : Mem) : CtR := match st with
  | (.int i, _) :: (.ref r, dd) :: t => if (dsc dd).2.1 = 101 then some ([vp_in i (dlen dd)], (.long (lI (M r (dsc dd).1 i.toNatClampNeg)), 0) :: t, M) else none
  | _ => none
def cAldQ (st : List AV) (M : Mem) : CtR := match st with
  | (.int i, _) :: (.ref _, dd) :: t => if 103 ≤ (dsc dd).2.1 ∧ (dsc dd).2.1 ≤ 105 then some ([vp_in i (dsc dd).2.2.length], (.ref ((dsc dd).2.2.getD i.toNatClampNeg (0, 0)).1, ((dsc dd).2.2.headD (0, 0)).2) :: t, M) else none
  | _ => none
def cAstI (st : List AV) (M : Mem) : CtR := match st with
  | (.int x, _) :: (.int i, _) :: (.ref r, dd) :: t => if (dsc dd).2.1 = 100 then some ([vp_in i (dlen dd)], t, upd3 M r (dsc dd).1 i.toNatClampNeg x.toInt) else none
  | _ => none
def cAstB (st : List AV) (M : Mem) : CtR := match st with
  | (.int x, _) :: (.int i, _) :: (.ref r, dd) :: t => if (dsc dd).2.1 = 102 then some ([vp_in i (dlen dd)], t, upd3 M r (dsc dd).1 i.toNatClampNeg (x.toInt8.toInt32).toInt) else none
  | _ => none
def cAstL (st : List AV) (M : Mem) : CtR := match st with
  | (.long x, _) :: (.int i, _) :: (.ref r, dd) :: t => if (dsc dd).2.1 = 101 then some ([vp_in i (dlen dd)], t, upd3 M r (dsc dd).1 i.toNatClampNeg x.toInt) else none
  | _ => none
def cLen (st : List AV) (M : Mem) : CtR := match st with
  | (.ref _, dd) :: t => if (dsc dd).2.1 = 100 ∨ (dsc dd).2.1 = 101 ∨ (dsc dd).2.1 = 102 then some ([], (.int (iN (dlen dd)), 0) :: t, M) else none
  | _ => none
def stepC (ins : Instr) (aux : Nat) (z : Int) (st : List AV) (M : Mem) : CtR := match ins with
  | .idiv => cDivI st M
  | .irem => cRemI st M
  | .ldiv => cDivL st M
  | .lrem => cRemL st M
  | .getfield _ => cGet aux z.toNat st M
  | .putfield _ => cPut aux z.toNat st M
  | .iaload => cAldI 100 st M
  | .baload => cAldI 102 st M
  | .laload => cAldL st M
  | .aaload => cAldQ st M
  | .iastore => cAstI st M
  | .bastore => cAstB st M
  | .lastore => cAstL st M
  | .arraylength => cLen st M
  | _ => none
def okC (mi : MI) (ins : Instr) (aux : Nat) (z : Int) (h : Nat) : Bool := match ins with
  | .getfield i => (match vCl[z.toNat]? with
    | some q => decide (aux < q.2.2) && decide (lw_tbl[h]? = some (.fieldLink mi.1.cls i (q.2.1 aux).1 (q.2.1 aux).2.1 (q.2.1 aux).2.2.1))
    | none => false)
  | .putfield i => (match vCl[z.toNat]? with
    | some q => decide (aux < q.2.2) && (decide ((q.2.1 aux).2.2.2 = false) && decide (lw_tbl[h]? = some (.fieldLink mi.1.cls i (q.2.1 aux).1 (q.2.1 aux).2.1 (q.2.1 aux).2.2.1)))
    | none => false)
  | _ => true
def kTy (k : Nat) (t : FieldType) : Bool := match k, t with
  | 0, .int => true
  | 1, .long => true
  | 2, .boolean => true
  | 3, .object _ => true
  | 3, .array _ => true
  | 4, .object _ => true
  | 4, .array _ => true
  | 5, .object _ => true
  | 5, .array _ => true
  | _, _ => false
def clTy (ci k : Nat) : FieldType := (tyCl.getD ci (fun _ => .int)) k
theorem cl_words : ∀ q ∈ vCl, ∀ w ∈ u_ws q.1 q.2.1 q.2.2, w ∈ lw_tbl.filter goodWord := by decide +kernel
theorem cl_nm : ∀ q ∈ vCl, ∀ a, a < q.2.2 → ∀ b, b < q.2.2 → a ≠ b → (q.2.1 a).2.1 ≠ (q.2.1 b).2.1 := by decide +kernel
theorem cl_ty : ∀ ci, ci < 12 → ∀ q ∈ vCl[ci]?, ∀ k, k < q.2.2 → parseFieldDescriptor (q.2.1 k).2.2.1 = some (clTy ci k) := by decide +kernel
theorem dl_ty : ∀ dd, dd < 55 → (dsc dd).2.1 < 12 → ∀ k, k < (dsc dd).2.2.length → kTy ((dsc dd).2.2.getD k (0, 0)).1 (clTy (dsc dd).2.1 k) = true := by decide +kernel
theorem dl_same : ∀ p ∈ CL, ∀ q ∈ (dsc p.2).2.2, (dsc p.2).2.1 < 100 → (q.1 = 3 → (p.1, q.2) ∈ CL ∧ q.2 ≠ 999) ∧ (q.1 = 4 → (q.2 / 1000, q.2 % 1000) ∈ CL ∧ q.2 % 1000 ≠ 999) := by decide +kernel
theorem dl_arr : ∀ p ∈ CL, ∀ q ∈ (dsc p.2).2.2, 103 ≤ (dsc p.2).2.1 → q.2 = ((dsc p.2).2.2.headD (0, 0)).2 ∧ q ∈ CL ∧ q.2 ≠ 999 := by decide +kernel
theorem dl_lt : ∀ p ∈ CL, p.2 < 55 := by decide +kernel
