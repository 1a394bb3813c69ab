def andL : List Prop → Prop → Prop
  | [], q => q
  | p :: t, q => p ∧ andL t q
theorem andL_app : ∀ (l : List Prop) {q : Prop}, andL l q → q
  | [], _, h => h
  | _ :: t, _, h => andL_app t h.2
theorem upd3_same (M : Mem) (r c k : Nat) (v : Int) : upd3 M r c k v r c k = v := by simp [upd3]
theorem upd3_k (M : Mem) (r c k : Nat) (v : Int) (j : Nat) (h : j ≠ k) : upd3 M r c k v r c j = M r c j := by simp [upd3, h]
theorem upd3_off (M : Mem) (r c k : Nat) (v : Int) (r' c' : Nat) (h : ¬ (r' = r ∧ c' = c)) : upd3 M r c k v r' c' = M r' c' := by
  funext j
  unfold upd3
  rw [if_neg]
  rintro ⟨h1, h2, -⟩
  exact h ⟨h1, h2⟩
theorem cell_obj (E : EnvT) (M : Mem) {r dd : Nat} (h : (dsc dd).2.1 < 100) : cellOf E M r dd = .inr ((dsc dd).2.1, flds E M r (dsc dd).1 0 (dsc dd).2.2) := by
  unfold cellOf
  rw [if_pos h]
theorem cell_int (E : EnvT) (M : Mem) {r dd : Nat} (h : (dsc dd).2.1 = 100) : cellOf E M r dd = .inl (eC E 0, dlen dd, .inl (fun k => iN (M r (dsc dd).1 k))) := by
  unfold cellOf
  rw [h]
  rfl
theorem cell_long (E : EnvT) (M : Mem) {r dd : Nat} (h : (dsc dd).2.1 = 101) : cellOf E M r dd = .inl (eC E 1, dlen dd, .inr (.inl (fun k => lI (M r (dsc dd).1 k)))) := by
  unfold cellOf
  rw [h]
  rfl
theorem cell_byte (E : EnvT) (M : Mem) {r dd : Nat} (h : (dsc dd).2.1 = 102) : cellOf E M r dd = .inl (eC E 2, dlen dd, .inl (fun k => iN (M r (dsc dd).1 k))) := by
  unfold cellOf
  rw [h]
  rfl
theorem cell_ref (E : EnvT) (M : Mem) {r dd : Nat} (h : 103 ≤ (dsc dd).2.1) : cellOf E M r dd = .inl (eC E ((dsc dd).2.1 - 100), (dsc dd).2.2.length, .inr (.inr (.inr (.inr (fun k => ((dsc dd).2.2[k]?).map (fun q => al E q.1 q.2)))))) := by
  unfold cellOf
  rw [if_neg (by omega), if_neg (by omega), if_neg (by omega), if_neg (by omega)]
theorem WL_cell {E : EnvT} {M : Mem} {r dd q0 : Nat} (hq : CL[q0]? = some (r, dd)) : (WL E M)[q0]? = some (al E r dd, cellOf E M r dd) := by
  rw [WL_at, hq]
  rfl
theorem arr_upd {M : Mem} {r c : Nat} {i : Int32} {v : Int} {x : Int32} (hv : iN v = x) : upd (fun k => iN (M r c k)) i.toNatClampNeg x = fun k => iN (upd3 M r c i.toNatClampNeg v r c k) := by
  funext k
  unfold upd upd3
  by_cases h : k = i.toNatClampNeg
  · simp [h, hv]
  · simp [h]
theorem arr_updL {M : Mem} {r c : Nat} {i : Int32} {v : Int} {x : Int64} (hv : lI v = x) : vp_updL (fun k => lI (M r c k)) i.toNatClampNeg x = fun k => lI (upd3 M r c i.toNatClampNeg v r c k) := by
  funext k
  unfold vp_updL upd3
  by_cases h : k = i.toNatClampNeg
  · simp [h, hv]
  · simp [h]
theorem cGet_inv {k ci : Nat} {st st' : List AV} {M M' : Mem} {P : List Prop} (h : cGet k ci st M = some (P, st', M')) : ∃ r dd t q, st = (.ref r, dd) :: t ∧ (dsc dd).2.1 = ci ∧ (dsc dd).2.2[k]? = some q ∧ P = (fget M r (dsc dd).1 k q).1 ∧ st' = (fget M r (dsc dd).1 k q).2 :: t ∧ M' = M := by
  unfold cGet at h
  split at h
  · rename_i r dd t
    split at h
    · rename_i h1
      split at h
      · rename_i q hq
        cases h
        exact ⟨r, dd, t, q, rfl, h1, hq, rfl, rfl, rfl⟩
      · cases h
    · cases h
  · cases h
theorem cPut_inv {k ci : Nat} {st st' : List AV} {M M' : Mem} {P : List Prop} (h : cPut k ci st M = some (P, st', M')) : ∃ v r dd q, st = v :: (.ref r, dd) :: st' ∧ (dsc dd).2.1 = ci ∧ (dsc dd).2.2[k]? = some q ∧ fput M r (dsc dd).1 k q v = some (P, M') := by
  unfold cPut at h
  split at h
  · rename_i v r dd t
    split at h
    · rename_i h1
      split at h
      · rename_i q hq
        split at h
        · rename_i P' M'' hp
          cases h
          exact ⟨v, r, dd, q, rfl, h1, hq, hp⟩
        · cases h
      · cases h
    · cases h
  · cases h
theorem cAldI_inv {tag : Nat} {st st' : List AV} {M M' : Mem} {P : List Prop} (h : cAldI tag st M = some (P, st', M')) : ∃ i di r dd t, st = (.int i, di) :: (.ref r, dd) :: t ∧ (dsc dd).2.1 = tag ∧ P = [vp_in i (dlen dd)] ∧ st' = (.int (iN (M r (dsc dd).1 i.toNatClampNeg)), 0) :: t ∧ M' = M := by
  unfold cAldI at h
  split at h
  · split at h
    · rename_i h1
      cases h
      exact ⟨_, _, _, _, _, rfl, h1, rfl, rfl, rfl⟩
    · cases h
  · cases h
theorem cAldL_inv {st st' : List AV} {M M' : Mem} {P : List Prop} (h : cAldL st M = some (P, st', M')) : ∃ i di r dd t, st = (.int i, di) :: (.ref r, dd) :: t ∧ (dsc dd).2.1 = 101 ∧ P = [vp_in i (dlen dd)] ∧ st' = (.long (lI (M r (dsc dd).1 i.toNatClampNeg)), 0) :: t ∧ M' = M := by
  unfold cAldL at h
  split at h
  · split at h
    · rename_i h1
      cases h
      exact ⟨_, _, _, _, _, rfl, h1, rfl, rfl, rfl⟩
    · cases h
  · cases h
theorem cAldQ_inv {st st' : List AV} {M M' : Mem} {P : List Prop} (h : cAldQ st M = some (P, st', M')) : ∃ i di r dd t, st = (.int i, di) :: (.ref r, dd) :: t ∧ (103 ≤ (dsc dd).2.1 ∧ (dsc dd).2.1 ≤ 105) ∧ P = [vp_in i (dsc dd).2.2.length] ∧ st' = (.ref ((dsc dd).2.2.getD i.toNatClampNeg (0, 0)).1, ((dsc dd).2.2.headD (0, 0)).2) :: t ∧ M' = M := by
  unfold cAldQ at h
  split at h
  · split at h
    · rename_i h1
      cases h
      exact ⟨_, _, _, _, _, rfl, h1, rfl, rfl, rfl⟩
    · cases h
  · cases h
theorem cAstI_inv {st st' : List AV} {M M' : Mem} {P : List Prop} (h : cAstI st M = some (P, st', M')) : ∃ x dx i di r dd, st = (.int x, dx) :: (.int i, di) :: (.ref r, dd) :: st' ∧ (dsc dd).2.1 = 100 ∧ P = [vp_in i (dlen dd)] ∧ M' = upd3 M r (dsc dd).1 i.toNatClampNeg x.toInt := by
  unfold cAstI at h
  split at h
  · split at h
    · rename_i h1
      cases h
      exact ⟨_, _, _, _, _, _, rfl, h1, rfl, rfl⟩
    · cases h
  · cases h
theorem cAstB_inv {st st' : List AV} {M M' : Mem} {P : List Prop} (h : cAstB st M = some (P, st', M')) : ∃ x dx i di r dd, st = (.int x, dx) :: (.int i, di) :: (.ref r, dd) :: st' ∧ (dsc dd).2.1 = 102 ∧ P = [vp_in i (dlen dd)] ∧ M' = upd3 M r (dsc dd).1 i.toNatClampNeg (x.toInt8.toInt32).toInt := by
  unfold cAstB at h
  split at h
  · split at h
    · rename_i h1
      cases h
      exact ⟨_, _, _, _, _, _, rfl, h1, rfl, rfl⟩
    · cases h
  · cases h
theorem cAstL_inv {st st' : List AV} {M M' : Mem} {P : List Prop} (h : cAstL st M = some (P, st', M')) : ∃ x dx i di r dd, st = (.long x, dx) :: (.int i, di) :: (.ref r, dd) :: st' ∧ (dsc dd).2.1 = 101 ∧ P = [vp_in i (dlen dd)] ∧ M' = upd3 M r (dsc dd).1 i.toNatClampNeg x.toInt := by
  unfold cAstL at h
  split at h
  · split at h
    · rename_i h1
      cases h
      exact ⟨_, _, _, _, _, _, rfl, h1, rfl, rfl⟩
    · cases h
  · cases h
theorem cLen_inv {st st' : List AV} {M M' : Mem} {P : List Prop} (h : cLen st M = some (P, st', M')) : ∃ r dd t, st = (.ref r, dd) :: t ∧ ((dsc dd).2.1 = 100 ∨ (dsc dd).2.1 = 101 ∨ (dsc dd).2.1 = 102) ∧ P = [] ∧ st' = (.int (iN (dlen dd)), 0) :: t ∧ M' = M := by
  unfold cLen at h
  split at h
  · split at h
    · rename_i h1
      cases h
      exact ⟨_, _, _, rfl, h1, rfl, rfl, rfl⟩
    · cases h
  · cases h
theorem cDivI_inv {st st' : List AV} {M M' : Mem} {P : List Prop} (h : cDivI st M = some (P, st', M')) : ∃ x y dx dy t, st = (.int y, dy) :: (.int x, dx) :: t ∧ P = [¬ y = 0] ∧ st' = (.int (x / y), 0) :: t ∧ M' = M := by
  unfold cDivI at h
  split at h
  · cases h
    exact ⟨_, _, _, _, _, rfl, rfl, rfl, rfl⟩
  · cases h
theorem cRemI_inv {st st' : List AV} {M M' : Mem} {P : List Prop} (h : cRemI st M = some (P, st', M')) : ∃ x y dx dy t, st = (.int y, dy) :: (.int x, dx) :: t ∧ P = [¬ y = 0] ∧ st' = (.int (iR x y), 0) :: t ∧ M' = M := by
  unfold cRemI at h
  split at h
  · cases h
    exact ⟨_, _, _, _, _, rfl, rfl, rfl, rfl⟩
  · cases h
theorem cDivL_inv {st st' : List AV} {M M' : Mem} {P : List Prop} (h : cDivL st M = some (P, st', M')) : ∃ x y dx dy t, st = (.long y, dy) :: (.long x, dx) :: t ∧ P = [¬ y = 0] ∧ st' = (.long (x / y), 0) :: t ∧ M' = M := by
  unfold cDivL at h
  split at h
  · cases h
    exact ⟨_, _, _, _, _, rfl, rfl, rfl, rfl⟩
  · cases h
theorem cRemL_inv {st st' : List AV} {M M' : Mem} {P : List Prop} (h : cRemL st M = some (P, st', M')) : ∃ x y dx dy t, st = (.long y, dy) :: (.long x, dx) :: t ∧ P = [¬ y = 0] ∧ st' = (.long (lR x y), 0) :: t ∧ M' = M := by
  unfold cRemL at h
  split at h
  · cases h
    exact ⟨_, _, _, _, _, rfl, rfl, rfl, rfl⟩
  · cases h
theorem fput_kind {E : EnvT} {M M' : Mem} {r c k : Nat} {q : Nat × Nat} {v : AV} {P : List Prop} {ty : FieldType} (h : fput M r c k q v = some (P, M')) (hk : kTy q.1 ty = true) (hP : andL P True) : narrow ty (cv E v) = cv E v ∧ fits ty (cv E v) = true ∧ fval E M' r c k q = (if q.1 = 5 then (if v.2 = 999 then .ref (al E (toR v) q.2) else cv E v) else cv E v) ∧ (∀ j, j ≠ k → M' r c j = M r c j) ∧ (∀ r' c', ¬ (r' = r ∧ c' = c) → M' r' c' = M r' c') ∧ (q.1 = 5 → v.2 = q.2) := by
  obtain ⟨v, dv⟩ := v
  obtain ⟨a, b⟩ := q
  unfold fput at h
  split at h
  · rename_i e
    simp only at e
    subst e
    split at h
    · rename_i x e2
      simp only at e2
      subst e2
      cases h
      cases ty <;> first | (simp [kTy] at hk; done) | skip
      refine ⟨rfl, rfl, ?_, upd3_k M r c k _, upd3_off M r c k _, fun z => by cases z⟩
      show Value.int (iN (upd3 M r c k x.toInt r c k)) = _
      rw [upd3_same, iN_toInt]
      rfl
    · cases h
  · rename_i e
    simp only at e
    subst e
    split at h
    · rename_i x e2
      simp only at e2
      subst e2
      cases h
      cases ty <;> first | (simp [kTy] at hk; done) | skip
      refine ⟨rfl, rfl, ?_, upd3_k M r c k _, upd3_off M r c k _, fun z => by cases z⟩
      show Value.long (lI (upd3 M r c k x.toInt r c k)) = _
      rw [upd3_same, lI_toInt]
      rfl
    · cases h
  · rename_i e
    simp only at e
    subst e
    split at h
    · rename_i x e2
      simp only at e2
      subst e2
      cases h
      cases ty <;> first | (simp [kTy] at hk; done) | skip
      refine ⟨?_, ?_, ?_, upd3_k M r c k _, upd3_off M r c k _, fun z => by cases z⟩
      · rcases hP.1 with h0 | h0 <;> (rw [h0, cv_int]; decide +kernel)
      · rcases hP.1 with h0 | h0 <;> (rw [h0, cv_int]; decide +kernel)
      · show Value.int (iN (upd3 M r c k x.toInt r c k)) = _
        rw [upd3_same, iN_toInt]
        rfl
    · cases h
  · rename_i e
    simp only at e
    subst e
    split at h
    · rename_i x e2
      simp only at e2
      subst e2
      split at h
      · rename_i e3
        simp only at e3
        cases h
        obtain ⟨a2, ha2⟩ := cv_ref E x dv
        rw [ha2]
        refine ⟨?_, ?_, ?_, upd3_k M r c k _, upd3_off M r c k _, fun _ => e3⟩
        · cases ty <;> first | (simp [kTy] at hk; done) | rfl
        · cases ty <;> first | (simp [kTy] at hk; done) | rfl
        · show Value.ref (al E (upd3 M r c k (x : Int) r c k).toNat b) = _
          rw [upd3_same, if_pos rfl]
          simp only [toR, Int.toNat_natCast]
          split
          · rfl
          · rename_i h9
            rw [← ha2, cv_al E h9, ← e3]
      · cases h
    · cases h
  · cases h
