def eD (E : EnvT) : va_G := E.1
def eA (E : EnvT) : Nat → Nat → Nat := E.2.1
def eC (E : EnvT) : Nat → ClassId := E.2.2.1
def eK (E : EnvT) : Nat → Nat := E.2.2.2.1
def eV (E : EnvT) : Nat → Nat := E.2.2.2.2.1
def eB (E : EnvT) : Nat := E.2.2.2.2.2
def Ab (E : EnvT) : Nat → Prop := fun q => eB E ≤ q
def dsc (dd : Nat) : Nat × Nat × List (Nat × Nat) := DL.getD dd (0, 999, [])
def al (E : EnvT) (r dd : Nat) : Nat := eA E r (dsc dd).1
def fval (E : EnvT) (M : Mem) (r c k : Nat) (q : Nat × Nat) : Value := match q.1 with
  | 0 => .int (iN (M r c k))
  | 1 => .long (lI (M r c k))
  | 2 => .int (iN (M r c k))
  | 3 => .ref (al E r q.2)
  | 4 => .ref (al E (q.2 / 1000) (q.2 % 1000))
  | _ => .ref (al E (M r c k).toNat q.2)
def flds (E : EnvT) (M : Mem) (r c : Nat) : Nat → List (Nat × Nat) → List Value
  | _, [] => []
  | k, q :: t => fval E M r c k q :: flds E M r c (k + 1) t
def cellOf (E : EnvT) (M : Mem) (r dd : Nat) : va_E :=
  if (dsc dd).2.1 < 100 then .inr ((dsc dd).2.1, flds E M r (dsc dd).1 0 (dsc dd).2.2)
  else if (dsc dd).2.1 = 100 then .inl (eC E 0, ((dsc dd).2.2.headD (0, 0)).1, .inl (fun k => iN (M r (dsc dd).1 k)))
  else if (dsc dd).2.1 = 101 then .inl (eC E 1, ((dsc dd).2.2.headD (0, 0)).1, .inr (.inl (fun k => lI (M r (dsc dd).1 k))))
  else if (dsc dd).2.1 = 102 then .inl (eC E 2, ((dsc dd).2.2.headD (0, 0)).1, .inl (fun k => iN (M r (dsc dd).1 k)))
  else .inl (eC E ((dsc dd).2.1 - 100), (dsc dd).2.2.length, .inr (.inr (.inr (.inr (fun k => ((dsc dd).2.2[k]?).map (fun q => al E q.1 q.2))))))
def WL (E : EnvT) (M : Mem) : va_W := CL.map (fun q => (al E q.1 q.2, cellOf E M q.1 q.2))
def tysE (E : EnvT) : List (ClassId × FieldType) := [(eC E 0, .int), (eC E 1, .long), (eC E 2, .byte), (eC E 3, .object "FalseNotes$Tray"), (eC E 4, .object "FalseNotes$Choir"), (eC E 5, .object "FalseNotes$Years")]
def cv (E : EnvT) (v : AV) : Value := match v.1 with
  | .ref r => if v.2 = 999 then .ref (eK E r) else .ref (al E r v.2)
  | x => x
def cvl (E : EnvT) (ls : LsT) : List (Nat × Value) := ls.map (fun q => (q.1, cv E q.2))
def TV (v : AV) : Prop := match v.1 with
  | .ref r => (v.2 = 999 ∧ r < 9) ∨ (v.2 ≠ 999 ∧ (r, v.2) ∈ CL)
  | _ => True
theorem cv_int (E : EnvT) (x : Int32) (d : Nat) : cv E (.int x, d) = .int x := rfl
theorem cv_long (E : EnvT) (x : Int64) (d : Nat) : cv E (.long x, d) = .long x := rfl
theorem cv_cat (E : EnvT) (v : AV) : (cv E v).category = v.1.category := by
  obtain ⟨v, d⟩ := v
  cases v with
  | ref r =>
    show (if d = 999 then Value.ref (eK E r) else Value.ref (al E r d)).category = _
    split <;> rfl
  | _ => rfl
theorem cv_ref (E : EnvT) (r d : Nat) : ∃ a, cv E (.ref r, d) = .ref a := by
  show ∃ a, (if d = 999 then Value.ref (eK E r) else Value.ref (al E r d)) = .ref a
  split
  · exact ⟨_, rfl⟩
  · exact ⟨_, rfl⟩
theorem lget_mem {ls : LsT} {k : Nat} {v : AV} (h : lget ls k = some v) : (k, v) ∈ ls := by
  induction ls with
  | nil => simp [lget] at h
  | cons q t ih =>
    obtain ⟨j, w⟩ := q
    unfold lget at h
    split at h
    · rename_i e
      subst e
      rw [Option.some.inj h]
      exact List.mem_cons_self
    · exact List.mem_cons_of_mem _ (ih h)
theorem cvl_lget {E : EnvT} {la : Array Slot} {n : Nat} {ls : LsT} (hl : lv_has la n (cvl E ls)) {k : Nat} {v : AV} (h : lget ls k = some v) : la[k]? = some (.val (cv E v)) :=
  hl.2.2 (k, cv E v) (List.mem_map.mpr ⟨(k, v), lget_mem h, rfl⟩)
theorem cvl_filter (E : EnvT) (ls : LsT) (f : Nat × AV → Bool) (g : Nat × Value → Bool) (h : ∀ q, g (q.1, cv E q.2) = f q) : (cvl E ls).filter g = cvl E (ls.filter f) := by
  induction ls with
  | nil => rfl
  | cons q t ih =>
    show ((q.1, cv E q.2) :: cvl E t).filter g = _
    rw [List.filter_cons, List.filter_cons, h q, ih]
    split <;> rfl
theorem cvl_lset (E : EnvT) (ls : LsT) (k : Nat) (v : AV) : (k, cv E v) :: (cvl E ls).filter (fun q => !(q.1 == k) && !(q.1 + 1 == k && q.2.category == 2)) = cvl E (lset ls k v) := by
  rw [cvl_filter E ls (fun q => !(q.1 == k) && !(q.1 + 1 == k && q.2.1.category == 2)) _ (fun q => by rw [cv_cat])]
  rfl
theorem cvl_lset2 (E : EnvT) (ls : LsT) (k : Nat) (v : AV) : (k, cv E v) :: (cvl E ls).filter (fun q => !(q.1 == k) && (!(q.1 == k + 1) && !(q.1 + 1 == k && q.2.category == 2))) = cvl E (lset2 ls k v) := by
  rw [cvl_filter E ls (fun q => !(q.1 == k) && (!(q.1 == k + 1) && !(q.1 + 1 == k && q.2.1.category == 2))) _ (fun q => by rw [cv_cat])]
  rfl
theorem lset_TV {ls : LsT} {k : Nat} {v : AV} (h : ∀ q ∈ ls, TV q.2) (hv : TV v) : ∀ q ∈ lset ls k v, TV q.2 := by
  intro q hq
  rcases List.mem_cons.mp hq with rfl | hq
  · exact hv
  · exact h q (List.mem_filter.mp hq).1
theorem lset2_TV {ls : LsT} {k : Nat} {v : AV} (h : ∀ q ∈ ls, TV q.2) (hv : TV v) : ∀ q ∈ lset2 ls k v, TV q.2 := by
  intro q hq
  rcases List.mem_cons.mp hq with rfl | hq
  · exact hv
  · exact h q (List.mem_filter.mp hq).1
theorem cons_TV {st : List AV} {v : AV} (h : ∀ q ∈ st, TV q) (hv : TV v) : ∀ q ∈ v :: st, TV q := by
  intro q hq
  rcases List.mem_cons.mp hq with rfl | hq
  · exact hv
  · exact h q hq
theorem lpick_spec {ls : LsT} : ∀ (ks : List Nat) {r : LsT}, lpick ls ks = some r → ∀ q ∈ r, q ∈ ls
  | [], r, h => by
    cases h
    intro q hq
    cases hq
  | k :: ks, r, h => by
    unfold lpick at h
    split at h
    · cases h
    · rename_i v hv
      split at h
      · cases h
      · rename_i r' hr'
        cases h
        intro q hq
        rcases List.mem_cons.mp hq with rfl | hq
        · exact lget_mem hv
        · exact lpick_spec ks hr' q hq
/-- strings: whose entry, its number there, the text, its number -/
def STRL : List (String × Nat × String × Nat) := [("FalseNotes$Tokens", 74, "singer purse bass cold deaf line owes heir hums lend to pay sunday die chord any when debt still loop end stop ", 0), ("FalseNotes$YearsReader", 88, "atbn", 1), ("FalseNotes$YearsReader", 90, "atbcn", 2), ("FalseNotes$YearsReader", 92, "acn", 3), ("FalseNotes$YearsReader", 94, "ab", 4), ("FalseNotes$YearsReader", 96, "a", 5), ("FalseNotes$YearsReader", 98, "n", 6), ("FalseNotes$YearsReader", 100, "", 7), ("FalseNotesModel", 193, " singer owes heir hums purse bass cold deaf line lend pay sunday die chord any to when loop end stop debt still ", 8)]
def STRN : List Nat := [111, 4, 5, 3, 2, 1, 1, 0, 112]
def STRB : List (List Int32) := [[115, 105, 110, 103, 101, 114, 32, 112, 117, 114, 115, 101, 32, 98, 97, 115, 115, 32, 99, 111, 108, 100, 32, 100, 101, 97, 102, 32, 108, 105, 110, 101, 32, 111, 119, 101, 115, 32, 104, 101, 105, 114, 32, 104, 117, 109, 115, 32, 108, 101, 110, 100, 32, 116, 111, 32, 112, 97, 121, 32, 115, 117, 110, 100, 97, 121, 32, 100, 105, 101, 32, 99, 104, 111, 114, 100, 32, 97, 110, 121, 32, 119, 104, 101, 110, 32, 100, 101, 98, 116, 32, 115, 116, 105, 108, 108, 32, 108, 111, 111, 112, 32, 101, 110, 100, 32, 115, 116, 111, 112, 32], [97, 116, 98, 110], [97, 116, 98, 99, 110], [97, 99, 110], [97, 98], [97], [110], [], [32, 115, 105, 110, 103, 101, 114, 32, 111, 119, 101, 115, 32, 104, 101, 105, 114, 32, 104, 117, 109, 115, 32, 112, 117, 114, 115, 101, 32, 98, 97, 115, 115, 32, 99, 111, 108, 100, 32, 100, 101, 97, 102, 32, 108, 105, 110, 101, 32, 108, 101, 110, 100, 32, 112, 97, 121, 32, 115, 117, 110, 100, 97, 121, 32, 100, 105, 101, 32, 99, 104, 111, 114, 100, 32, 97, 110, 121, 32, 116, 111, 32, 119, 104, 101, 110, 32, 108, 111, 111, 112, 32, 101, 110, 100, 32, 115, 116, 111, 112, 32, 100, 101, 98, 116, 32, 115, 116, 105, 108, 108, 32]]
def KK (E : EnvT) (U : State) : Prop := va_K (eD E) vCl (tysE E) U ∧ vk_S 9 STRN STRB (eK E) (eV E) (Ab E) U U.heap ∧ (va_Z "java/lang/String" "COMPACT_STRINGS" "Z" (.int 1) (Ab E) U U.heap ∧ ∃ v : Value, va_Z "jdk/internal/util/Preconditions" "SIOOBE_FORMATTER" "Ljava/util/function/BiFunction;" v (Ab E) U U.heap) ∧ ∀ q ∈ STRL, vk_R q.1 q.2.1 q.2.2.1 (eK E q.2.2.2) U
theorem KK.move {E : EnvT} {s U : State} {H : Heap} {locs : List Loc} (h : KK E s) (hS : va_S (Ab E) s.heap H locs) (hU : U.heap = H) (hW : s.WarmedH U.vm) : KK E U := by
  obtain ⟨h1, h2, h3, h4⟩ := h
  obtain ⟨h3, v, h3v⟩ := h3
  refine ⟨va_K.moved hW.alike h1, ?_, ⟨?_, v, ?_⟩, fun q hq => (h4 q hq).warm hW⟩
  · have := (vk_S.kept h2 hS.2.1).moved hW.alike
    rw [hU]
    exact this
  · have := (va_Z.kept h3 hS.2.1).moved hW.alike
    rw [hU]
    exact this
  · have := (va_Z.kept h3v hS.2.1).moved hW.alike
    rw [hU]
    exact this
theorem KK.call {E : EnvT} {U : State} (g : JFrame) (mk : MethodId) (a : Array Value) (h : KK E U) : KK E (U.calling g mk a) := by
  obtain ⟨h1, h2, h3, h4⟩ := h
  obtain ⟨h3, v, h3v⟩ := h3
  exact ⟨va_K.moved (u := U) (U := U.calling g mk a) (Vm.Alike.refl U.vm) h1, vk_S.moved (u := U) (U := U.calling g mk a) (Vm.Alike.refl U.vm) h2, ⟨va_Z.moved (u := U) (U := U.calling g mk a) (Vm.Alike.refl U.vm) h3, v, va_Z.moved (u := U) (U := U.calling g mk a) (Vm.Alike.refl U.vm) h3v⟩, fun q hq => (h4 q hq).same rfl⟩
def HX (E : EnvT) (M : Mem) (H : Heap) : Prop := va_P (eD E) vCl (WL E M) H
def DX (E : EnvT) : Prop := va_D (Ab E) (WL E (fun _ _ _ => 0))
theorem WL_at (E : EnvT) (M : Mem) (i : Nat) : (WL E M)[i]? = (CL[i]?).map (fun q => (al E q.1 q.2, cellOf E M q.1 q.2)) := List.getElem?_map
theorem DX.all {E : EnvT} (h : DX E) (M : Mem) : va_D (Ab E) (WL E M) := by
  have key : ∀ (i : Nat) (p : Nat × va_E), (WL E M)[i]? = some p → ∃ p', (WL E (fun _ _ _ => 0))[i]? = some p' ∧ p'.1 = p.1 := by
    intro i p hp
    rw [WL_at] at hp ⊢
    cases hc : CL[i]? with
    | none => rw [hc] at hp; cases hp
    | some q =>
      rw [hc] at hp
      cases hp
      exact ⟨_, rfl, rfl⟩
  refine ⟨fun i j p q hp hq e => ?_, fun k q hq => ?_⟩
  · obtain ⟨p', h1, e1⟩ := key i p hp
    obtain ⟨q', h2, e2⟩ := key j q hq
    exact h.1 i j p' q' h1 h2 (by rw [e1, e2, e])
  · obtain ⟨q', h2, e2⟩ := key k q hq
    rw [← e2]
    exact h.2 k q' h2
theorem CL_nd : CL.Nodup := by decide +kernel
def WS (mi : MI) : List Cond := .code mi.1 mi.2.1 mi.2.2.1 mi.2.2.2.1 :: lw_tbl.filter goodWord
def rmD (d : Nat) : Room := { frames := d, cells := 0, slots := 0, locals := 64 * d }
def rk : Option FieldType → Nat
  | none => 0
  | some .long => 2
  | some (.object _) => 3
  | some (.array _) => 3
  | _ => 1
def Qr (mi : MI) (E : EnvT) (r : AV) (o : Outcome) : Prop := match rk mi.2.2.2.1 with
  | 0 => o = .returned none
  | 1 => ∃ x, r = (.int x, 0) ∧ o = .returned (some (.int x))
  | 2 => ∃ x, r = (.long x, 0) ∧ o = .returned (some (.long x))
  | _ => ∃ x, r = (.ref x, 999) ∧ x < 9 ∧ o = .returned (some (.ref (eK E x)))
def QQ (E : EnvT) (mi : MI) (K : AV → Mem → Prop) : Array Value → State → Outcome → State → Prop := fun _ st o t => (∃ r M', K r M' ∧ Qr mi E r o ∧ HX E M' t.heap) ∧ va_F (Ab E) st t
def CT (l : Launch) (E : EnvT) (d : Nat) (mi : MI) (as : List AV) (M : Mem) (K : AV → Mem → Prop) : Prop :=
  (∀ a ∈ as, TV a) → Met l mi.1 (WS mi) (rmD d) (va_Pc (as.map (cv E)) (fun U => HX E M U.heap ∧ KK E U ∧ DX E ∧ eB E ≤ U.heap.size)) (QQ E mi K) 0 0 (Ab E)
def CX (E : EnvT) (mi : MI) (p : Program) (s : State) (m : MethodId) (args : Array Value) (meth : Method) (c : Code) : Prop :=
  p.tables.exec = Jvm.exec ∧ c.code = mi.2.1 ∧ c.maxLocals = mi.2.2.1 ∧ s.vm.findClass mi.1.cls = some m.cls ∧ (∀ w ∈ WS mi, w.before args s = true) ∧ meth.sig.returnType = mi.2.2.2.1 ∧ meth.locks = false ∧ KK E s ∧ DX E ∧ eB E ≤ s.heap.size
def G (l : Launch) (E : EnvT) (d : Nat) (mi : MI) (pc : Nat) (ls : LsT) (st : List AV) (M : Mem) (K : AV → Mem → Prop) : Prop :=
  ∀ (p : Program) (e : Env) (s : State) (m : MethodId) (args : Array Value) (below : List Frame) (meth : Method) (c : Code) (H : Heap) (locs : List Loc) (la : Array Slot), CX E mi p s m args meth c → HX E M H → va_S (Ab E) s.heap H locs → (∀ q ∈ ls, TV q.2) → (∀ v ∈ st, TV v) → lv_has la mi.2.2.1 (cvl E ls) →
    W p l e (rmD d) s m args below meth c H locs 0 0 (MQ below (QQ E mi K) args s 0 0 (Ab E)) (F0 m pc la (st.map (cv E)))
theorem G.pick {l : Launch} {E : EnvT} {d : Nat} {mi : MI} {pc : Nat} {ls ls' : LsT} {st : List AV} {M : Mem} {K : AV → Mem → Prop} (ks : List Nat) (h : lpick ls ks = some ls') (g : G l E d mi pc ls' st M K) : G l E d mi pc ls st M K := by
  intro p e s m args below meth c H locs la hC hH hS hT1 hT2 hl
  refine g p e s m args below meth c H locs la hC hH hS (fun q hq => hT1 q (lpick_spec ks h q hq)) hT2 ⟨hl.1, hl.2.1, fun q hq => ?_⟩
  obtain ⟨q', h1, rfl⟩ := List.mem_map.mp hq
  exact hl.2.2 _ (List.mem_map.mpr ⟨q', lpick_spec ks h q' h1, rfl⟩)
