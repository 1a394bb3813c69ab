def aargs : Nat → List AV → LsT
  | _, [] => []
  | i, v :: vs => (i, v) :: aargs (if v.1.category = 2 then i + 2 else i + 1) vs
theorem aargs_cv (E : EnvT) : ∀ (as : List AV) (i : Nat), lv_args i (as.map (cv E)) = cvl E (aargs i as)
  | [], _ => rfl
  | v :: vs, i => by
    show (i, cv E v) :: lv_args (if (cv E v).category = 2 then i + 2 else i + 1) (vs.map (cv E)) = _
    rw [cv_cat, aargs_cv E vs]
    rfl
theorem aargs_TV : ∀ (as : List AV) (i : Nat), (∀ a ∈ as, TV a) → ∀ q ∈ aargs i as, TV q.2
  | [], _, _ => fun q hq => by cases hq
  | v :: vs, i, h => fun q hq => by
    rcases List.mem_cons.mp hq with rfl | hq
    · exact h v List.mem_cons_self
    · exact aargs_TV vs _ (fun a ha => h a (List.mem_cons_of_mem _ ha)) q hq
def asz : List AV → Nat
  | [] => 0
  | v :: vs => (if v.1.category = 2 then 2 else 1) + asz vs
theorem asz_cv (E : EnvT) : ∀ as : List AV, (lg_sl (as.map (cv E))).length = asz as
  | [] => rfl
  | v :: vs => by
    have h := asz_cv E vs
    have hc := cv_cat E v
    have e : lg_sl ((v :: vs).map (cv E)) = (if (cv E v).category = 2 then [.val (cv E v), .second] else [.val (cv E v)]) ++ lg_sl (vs.map (cv E)) := rfl
    rw [e, hc, List.length_append, h]
    show _ = (if v.1.category = 2 then 2 else 1) + asz vs
    split <;> rfl
theorem CT.of {l : Launch} {E : EnvT} {d : Nat} {mi : MI} {as : List AV} {M : Mem} {K : AV → Mem → Prop} (hy : plainName mi.1.cls = true) (hn : asz as ≤ mi.2.2.1) (g : G l E d mi 0 (aargs 0 as) [] M K) : CT l E d mi as M K := by
  intro hT
  refine Met.ofW (cc := mi.2.1) (maxL := mi.2.2.1) (ret := mi.2.2.2.1) hy rfl ?_
  intro p e s m args below meth c s₁ B hml hv
  obtain ⟨rfl, hH, hK, hD, hb⟩ := hv
  have he := lv_entry (as.map (cv E)) (n := mi.2.2.1) (by rw [asz_cv]; exact hn)
  rw [aargs_cv] at he
  rw [lg_entry_eq]
  exact g p e s m _ below meth c s.heap [] _ ⟨B.exec, B.bytes, hml, findClass_of_methodNamed B.named, atoms_spec (ws := WS mi) B.pre, B.returns, B.notSynchronized, hK, hD, hb⟩ hH va_S.rf (aargs_TV as 0 hT) (fun v hv => by cases hv) he
def ilen : Instr → Nat
  | .bipush _ => 2
  | .sipush _ => 3
  | .ldc _ => 2
  | .ldc_w _ => 3
  | .ldc2_w _ => 3
  | .iload _ => 2
  | .lload _ => 2
  | .aload _ => 2
  | .istore _ => 2
  | .lstore _ => 2
  | .astore _ => 2
  | .iinc _ _ => 3
  | .getfield _ => 3
  | .putfield _ => 3
  | .invokevirtual _ => 3
  | .invokestatic _ => 3
  | .goto _ => 3
  | .if_icmp _ _ => 3
  | .ifCond _ _ => 3
  | _ => 1

theorem sK_inv {ls ls' : LsT} {st st' : List AV} {v : Value} (h : sK ls st v = some (ls', st')) : ls' = ls ∧ st' = (v, 0) :: st := by
  cases h
  exact ⟨rfl, rfl⟩
theorem sBin_inv {f : Int32 → Int32 → Int32} {ls ls' : LsT} {st st' : List AV} (h : sBin f ls st = some (ls', st')) : ∃ x y dx dy t, st = (.int y, dy) :: (.int x, dx) :: t ∧ ls' = ls ∧ st' = (.int (f x y), 0) :: t := by
  unfold sBin at h
  split at h
  · cases h
    exact ⟨_, _, _, _, _, rfl, rfl, rfl⟩
  · cases h
theorem sBinL_inv {f : Int64 → Int64 → Int64} {ls ls' : LsT} {st st' : List AV} (h : sBinL f ls st = some (ls', st')) : ∃ x y dx dy t, st = (.long y, dy) :: (.long x, dx) :: t ∧ ls' = ls ∧ st' = (.long (f x y), 0) :: t := by
  unfold sBinL at h
  split at h
  · cases h
    exact ⟨_, _, _, _, _, rfl, rfl, rfl⟩
  · cases h
theorem sShL_inv {f : Int64 → Int32 → Int64} {ls ls' : LsT} {st st' : List AV} (h : sShL f ls st = some (ls', st')) : ∃ x y dx dy t, st = (.int y, dy) :: (.long x, dx) :: t ∧ ls' = ls ∧ st' = (.long (f x y), 0) :: t := by
  unfold sShL at h
  split at h
  · cases h
    exact ⟨_, _, _, _, _, rfl, rfl, rfl⟩
  · cases h
theorem sCmp_inv {ls ls' : LsT} {st st' : List AV} (h : sCmp ls st = some (ls', st')) : ∃ x y dx dy t, st = (.long y, dy) :: (.long x, dx) :: t ∧ ls' = ls ∧ st' = (.int (lg_cmp x y), 0) :: t := by
  unfold sCmp at h
  split at h
  · cases h
    exact ⟨_, _, _, _, _, rfl, rfl, rfl⟩
  · cases h
theorem sUn_inv {f : Int32 → Int32} {ls ls' : LsT} {st st' : List AV} (h : sUn f ls st = some (ls', st')) : ∃ x dx t, st = (.int x, dx) :: t ∧ ls' = ls ∧ st' = (.int (f x), 0) :: t := by
  unfold sUn at h
  split at h
  · cases h
    exact ⟨_, _, _, rfl, rfl, rfl⟩
  · cases h
theorem sIL_inv {ls ls' : LsT} {st st' : List AV} (h : sIL ls st = some (ls', st')) : ∃ x dx t, st = (.int x, dx) :: t ∧ ls' = ls ∧ st' = (.long x.toInt64, 0) :: t := by
  unfold sIL at h
  split at h
  · cases h
    exact ⟨_, _, _, rfl, rfl, rfl⟩
  · cases h
theorem sLI_inv {ls ls' : LsT} {st st' : List AV} (h : sLI ls st = some (ls', st')) : ∃ x dx t, st = (.long x, dx) :: t ∧ ls' = ls ∧ st' = (.int x.toInt32, 0) :: t := by
  unfold sLI at h
  split at h
  · cases h
    exact ⟨_, _, _, rfl, rfl, rfl⟩
  · cases h
theorem sLoadI_inv {ls ls' : LsT} {st st' : List AV} {k : Nat} (h : sLoadI ls st k = some (ls', st')) : ∃ x d, lget ls k = some (.int x, d) ∧ ls' = ls ∧ st' = (.int x, 0) :: st := by
  unfold sLoadI at h
  split at h
  · rename_i x d e
    cases h
    exact ⟨x, d, e, rfl, rfl⟩
  · cases h
theorem sLoadL_inv {ls ls' : LsT} {st st' : List AV} {k : Nat} (h : sLoadL ls st k = some (ls', st')) : ∃ x d, lget ls k = some (.long x, d) ∧ ls' = ls ∧ st' = (.long x, 0) :: st := by
  unfold sLoadL at h
  split at h
  · rename_i x d e
    cases h
    exact ⟨x, d, e, rfl, rfl⟩
  · cases h
theorem sLoadA_inv {ls ls' : LsT} {st st' : List AV} {k : Nat} (h : sLoadA ls st k = some (ls', st')) : ∃ x d, lget ls k = some (.ref x, d) ∧ ls' = ls ∧ st' = (.ref x, d) :: st := by
  unfold sLoadA at h
  split at h
  · rename_i x d e
    cases h
    exact ⟨x, d, e, rfl, rfl⟩
  · cases h
theorem sInc_inv {ls ls' : LsT} {st st' : List AV} {k : Nat} {n : Int} (h : sInc ls st k n = some (ls', st')) : ∃ x d, lget ls k = some (.int x, d) ∧ ls' = lset ls k (.int (x + iN n), 0) ∧ st' = st := by
  unfold sInc at h
  split at h
  · rename_i x d e
    cases h
    exact ⟨x, d, e, rfl, rfl⟩
  · cases h
theorem sStoI_inv {ls ls' : LsT} {st st' : List AV} {k : Nat} (h : sStoI ls st k = some (ls', st')) : ∃ x d, st = (.int x, d) :: st' ∧ ls' = lset ls k (.int x, 0) := by
  unfold sStoI at h
  split at h
  · cases h
    exact ⟨_, _, rfl, rfl⟩
  · cases h
theorem sStoL_inv {ls ls' : LsT} {st st' : List AV} {k : Nat} (h : sStoL ls st k = some (ls', st')) : ∃ x d, st = (.long x, d) :: st' ∧ ls' = lset2 ls k (.long x, 0) := by
  unfold sStoL at h
  split at h
  · cases h
    exact ⟨_, _, rfl, rfl⟩
  · cases h
theorem sStoA_inv {ls ls' : LsT} {st st' : List AV} {k : Nat} (h : sStoA ls st k = some (ls', st')) : ∃ x d, st = (.ref x, d) :: st' ∧ ls' = lset ls k (.ref x, d) := by
  unfold sStoA at h
  split at h
  · cases h
    exact ⟨_, _, rfl, rfl⟩
  · cases h
theorem sPop_inv {ls ls' : LsT} {st st' : List AV} (h : sPop ls st = some (ls', st')) : ∃ x d, st = (.int x, d) :: st' ∧ ls' = ls := by
  unfold sPop at h
  split at h
  · cases h
    exact ⟨_, _, rfl, rfl⟩
  · cases h
theorem sDup_inv {ls ls' : LsT} {st st' : List AV} (h : sDup ls st = some (ls', st')) : ∃ v t, st = v :: t ∧ v.1.category = 1 ∧ ls' = ls ∧ st' = v :: v :: t := by
  unfold sDup at h
  split at h
  · cases h
    exact ⟨_, _, rfl, rfl, rfl, rfl⟩
  · cases h
    exact ⟨_, _, rfl, rfl, rfl, rfl⟩
  · cases h
theorem sDup2_inv {ls ls' : LsT} {st st' : List AV} (h : sDup2 ls st = some (ls', st')) : ∃ v u t, st = v :: u :: t ∧ v.1.category = 1 ∧ u.1.category = 1 ∧ ls' = ls ∧ st' = v :: u :: v :: u :: t := by
  unfold sDup2 at h
  split at h
  · cases h
    exact ⟨_, _, _, rfl, rfl, rfl, rfl, rfl⟩
  · cases h
theorem i8_eq {n : Int} (h : n = (Int8.ofInt n).toInt) : (Int8.ofInt n).toInt32 = iN n := by
  unfold iN
  rw [← Int32.toInt_inj]
  have h1 : ((Int8.ofInt n).toInt32).toInt = (Int8.ofInt n).toInt := by simp
  rw [h1, ← h, Int32.toInt_ofInt]
  have h2 := Int8.le_toInt (Int8.ofInt n)
  have h3 := Int8.toInt_lt (Int8.ofInt n)
  rw [← h] at h2 h3
  have h4 : (Int32.size : Int) = 4294967296 := rfl
  exact (Int.bmod_eq_of_le (by omega) (by omega)).symm
theorem i16_eq {n : Int} (h : n = (Int16.ofInt n).toInt) : (Int16.ofInt n).toInt32 = iN n := by
  unfold iN
  rw [← Int32.toInt_inj]
  have h1 : ((Int16.ofInt n).toInt32).toInt = (Int16.ofInt n).toInt := by simp
  rw [h1, ← h, Int32.toInt_ofInt]
  have h2 := Int16.le_toInt (Int16.ofInt n)
  have h3 := Int16.toInt_lt (Int16.ofInt n)
  rw [← h] at h2 h3
  have h4 : (Int32.size : Int) = 4294967296 := rfl
  exact (Int.bmod_eq_of_le (by omega) (by omega)).symm
/-- what a program asks of an instruction that leaves memory alone -/
def okS (mi : MI) (ins : Instr) (aux : Nat) (z : Int) (h : Nat) : Bool := match ins with
  | .bipush n => decide (n = (Int8.ofInt n).toInt)
  | .sipush n => decide (n = (Int16.ofInt n).toInt)
  | .istore k => decide (k < mi.2.2.1)
  | .istore_n k => decide ((k : Nat) < mi.2.2.1)
  | .astore k => decide (k < mi.2.2.1)
  | .astore_n k => decide ((k : Nat) < mi.2.2.1)
  | .lstore k => decide (k + 1 < mi.2.2.1)
  | .lstore_n k => decide ((k : Nat) + 1 < mi.2.2.1)
  | .iinc k _ => decide (k < mi.2.2.1)
  | .ldc i => if aux = 1 then decide (lw_tbl[h]? = some (.constant mi.1.cls i (iN z))) else decide (z.toNat < 9 ∧ ∃ q ∈ STRL, q.1 = mi.1.cls ∧ q.2.1 = i ∧ q.2.2.2 = z.toNat)
  | .ldc_w i => decide (lw_tbl[h]? = some (.constant mi.1.cls i (iN z)))
  | .ldc2_w i => decide (lw_tbl[h]? = some (.constantLong mi.1.cls i (lI z)))
  | _ => true
theorem in_WS {mi : MI} {w : Cond} {h : Nat} (hw : lw_tbl[h]? = some w) (hg : goodWord w = true) : w ∈ WS mi := List.mem_cons_of_mem _ (List.mem_filter.mpr ⟨List.mem_of_getElem? hw, hg⟩)

set_option maxHeartbeats 4000000 in
theorem stepS_ok {l : Launch} {E : EnvT} {d : Nat} {mi : MI} {ins : Instr} {len aux h pc : Nat} {z : Int} {ls ls' : LsT} {st st' : List AV} {Q : State → Prop} {p : Program} {e : Env} {s : State} {m : MethodId} {args : Array Value} {below : List Frame} {meth : Method} {c : Code} {H : Heap} {locs : List Loc} {la : Array Slot}
    (hC : CX E mi p s m args meth c) (hdec : decode mi.2.1 pc = .ok (ins, len)) (hlen : len = ilen ins) (hok : okS mi ins aux z h = true) (hs : stepS ins aux z ls st = some (ls', st')) (hT1 : ∀ q ∈ ls, TV q.2) (hT2 : ∀ v ∈ st, TV v) (hl : lv_has la mi.2.2.1 (cvl E ls))
    (k : ∀ la' : Array Slot, (∀ q ∈ ls', TV q.2) → (∀ v ∈ st', TV v) → lv_has la' mi.2.2.1 (cvl E ls') → W p l e (rmD d) s m args below meth c H locs 0 0 Q (F0 m (pc + len) la' (st'.map (cv E)))) :
    W p l e (rmD d) s m args below meth c H locs 0 0 Q (F0 m pc la (st.map (cv E))) := by
  obtain ⟨hx, hb, hml, hown, hts, hr, hlocks, hKK, hDX, hbs⟩ := hC
  subst hlen
  cases ins with
  | iconst n =>
    obtain ⟨rfl, rfl⟩ := sK_inv hs
    exact lv_iconst hx hb hdec rfl (k la hT1 (cons_TV hT2 trivial) hl)
  | bipush n =>
    obtain ⟨rfl, rfl⟩ := sK_inv hs
    exact lv_bipush hx hb hdec (i8_eq (of_decide_eq_true hok)) (k la hT1 (cons_TV hT2 trivial) hl)
  | sipush n =>
    obtain ⟨rfl, rfl⟩ := sK_inv hs
    exact lv_sipush hx hb hdec (i16_eq (of_decide_eq_true hok)) (k la hT1 (cons_TV hT2 trivial) hl)
  | lconst n =>
    obtain ⟨rfl, rfl⟩ := sK_inv hs
    exact lv_lconst hx hb hdec (by unfold lI; obtain ⟨n, hn⟩ := n; match n, hn with | 0, _ => rfl | 1, _ => rfl) (k la hT1 (cons_TV hT2 trivial) hl)
  | ldc i =>
    simp only [stepS] at hs
    split at hs
    · rename_i ha
      obtain ⟨rfl, rfl⟩ := sK_inv hs
      simp only [okS, ha, if_true] at hok
      exact lv_ldc hx hb hown (hts _ (in_WS (of_decide_eq_true hok) rfl)) hdec (k la hT1 (cons_TV hT2 trivial) hl)
    · rename_i ha
      split at hs
      · cases hs
        simp only [okS, if_neg ha] at hok
        obtain ⟨hz, q, hq, e1, e2, e3⟩ := of_decide_eq_true hok
        have hR := hKK.2.2.2 q hq
        rw [e1, e2, e3] at hR
        have hk := k la hT1 (cons_TV hT2 (Or.inl ⟨rfl, hz⟩)) hl
        exact va_ldcS hx hb hown hR hdec hk
      · cases hs
  | ldc_w i =>
    simp only [stepS] at hs
    split at hs
    · obtain ⟨rfl, rfl⟩ := sK_inv hs
      exact lv_ldcw hx hb hown (hts _ (in_WS (of_decide_eq_true hok) rfl)) hdec (k la hT1 (cons_TV hT2 trivial) hl)
    · cases hs
  | ldc2_w i =>
    simp only [stepS] at hs
    split at hs
    · obtain ⟨rfl, rfl⟩ := sK_inv hs
      exact lv_ldc2 hx hb hown (hts _ (in_WS (of_decide_eq_true hok) rfl)) hdec (k la hT1 (cons_TV hT2 trivial) hl)
    · cases hs
  | iload j =>
    obtain ⟨x, dx, e, rfl, rfl⟩ := sLoadI_inv hs
    exact lv_iload hx hb hdec (cvl_lget hl e) (k la hT1 (cons_TV hT2 trivial) hl)
  | iload_n j =>
    obtain ⟨x, dx, e, rfl, rfl⟩ := sLoadI_inv hs
    exact lv_iload_n hx hb hdec rfl (cvl_lget hl e) (k la hT1 (cons_TV hT2 trivial) hl)
  | lload j =>
    obtain ⟨x, dx, e, rfl, rfl⟩ := sLoadL_inv hs
    exact lv_lload hx hb hdec (cvl_lget hl e) (k la hT1 (cons_TV hT2 trivial) hl)
  | lload_n j =>
    obtain ⟨x, dx, e, rfl, rfl⟩ := sLoadL_inv hs
    exact lv_lload_n hx hb hdec rfl (cvl_lget hl e) (k la hT1 (cons_TV hT2 trivial) hl)
  | aload j =>
    obtain ⟨x, dx, e, rfl, rfl⟩ := sLoadA_inv hs
    obtain ⟨a, ha⟩ := cv_ref E x dx
    have hk := k la hT1 (cons_TV hT2 (hT1 _ (lget_mem e))) hl
    have hg := cvl_lget hl e
    rw [ha] at hg
    simp only [List.map_cons, ha] at hk
    exact lv_aload hx hb hdec hg hk
  | aload_n j =>
    obtain ⟨x, dx, e, rfl, rfl⟩ := sLoadA_inv hs
    obtain ⟨a, ha⟩ := cv_ref E x dx
    have hk := k la hT1 (cons_TV hT2 (hT1 _ (lget_mem e))) hl
    have hg := cvl_lget hl e
    rw [ha] at hg
    simp only [List.map_cons, ha] at hk
    exact lv_aload_n hx hb hdec rfl hg hk
  | istore j =>
    obtain ⟨x, dx, rfl, rfl⟩ := sStoI_inv hs
    exact lv_istore hx hb hdec hl (of_decide_eq_true hok) (cvl_lset E ls _ (.int x, 0)) (fun la2 hl2 => k la2 (lset_TV hT1 trivial) (fun v hv => hT2 v (List.mem_cons_of_mem _ hv)) hl2)
  | lstore j =>
    obtain ⟨x, dx, rfl, rfl⟩ := sStoL_inv hs
    exact lv_lstore hx hb hdec hl (of_decide_eq_true hok) (cvl_lset2 E ls _ (.long x, 0)) (fun la2 hl2 => k la2 (lset2_TV hT1 trivial) (fun v hv => hT2 v (List.mem_cons_of_mem _ hv)) hl2)
  | astore j =>
    obtain ⟨x, dx, rfl, rfl⟩ := sStoA_inv hs
    obtain ⟨a, ha⟩ := cv_ref E x dx
    have hset := cvl_lset E ls (j : Nat) (.ref x, dx)
    rw [ha] at hset
    simp only [List.map_cons, ha]
    exact lv_astore hx hb hdec hl (of_decide_eq_true hok) hset (fun la2 hl2 => k la2 (lset_TV hT1 (hT2 _ List.mem_cons_self)) (fun v hv => hT2 v (List.mem_cons_of_mem _ hv)) hl2)
  | istore_n j =>
    obtain ⟨x, dx, rfl, rfl⟩ := sStoI_inv hs
    exact lv_istore_n hx hb hdec rfl hl (of_decide_eq_true hok) (cvl_lset E ls _ (.int x, 0)) (fun la2 hl2 => k la2 (lset_TV hT1 trivial) (fun v hv => hT2 v (List.mem_cons_of_mem _ hv)) hl2)
  | lstore_n j =>
    obtain ⟨x, dx, rfl, rfl⟩ := sStoL_inv hs
    exact lv_lstore_n hx hb hdec rfl hl (of_decide_eq_true hok) (cvl_lset2 E ls _ (.long x, 0)) (fun la2 hl2 => k la2 (lset2_TV hT1 trivial) (fun v hv => hT2 v (List.mem_cons_of_mem _ hv)) hl2)
  | astore_n j =>
    obtain ⟨x, dx, rfl, rfl⟩ := sStoA_inv hs
    obtain ⟨a, ha⟩ := cv_ref E x dx
    have hset := cvl_lset E ls (j : Nat) (.ref x, dx)
    rw [ha] at hset
    simp only [List.map_cons, ha]
    exact lv_astore_n hx hb hdec rfl hl (of_decide_eq_true hok) hset (fun la2 hl2 => k la2 (lset_TV hT1 (hT2 _ List.mem_cons_self)) (fun v hv => hT2 v (List.mem_cons_of_mem _ hv)) hl2)
  | iinc j n =>
    obtain ⟨x, dx, e, rfl, rfl⟩ := sInc_inv hs
    have hm : (j, cv E (.int x, dx)) ∈ cvl E ls := List.mem_map.mpr ⟨(j, (.int x, dx)), lget_mem e, rfl⟩
    obtain ⟨i, hi⟩ := List.getElem?_of_mem hm
    exact lv_iinc (v := x + iN n) hx hb hdec hl hi rfl (of_decide_eq_true hok) (cvl_lset E ls _ (.int (x + iN n), 0)) (fun la2 hl2 => k la2 (lset_TV hT1 trivial) hT2 hl2)
  | iadd =>
    obtain ⟨x, y, dx, dy, t, rfl, rfl, rfl⟩ := sBin_inv hs
    exact lv_iadd hx hb hdec (k la hT1 (cons_TV (fun v hv => hT2 v (List.mem_cons_of_mem _ (List.mem_cons_of_mem _ hv))) trivial) hl)
  | isub =>
    obtain ⟨x, y, dx, dy, t, rfl, rfl, rfl⟩ := sBin_inv hs
    exact lv_isub hx hb hdec (k la hT1 (cons_TV (fun v hv => hT2 v (List.mem_cons_of_mem _ (List.mem_cons_of_mem _ hv))) trivial) hl)
  | imul =>
    obtain ⟨x, y, dx, dy, t, rfl, rfl, rfl⟩ := sBin_inv hs
    exact lv_imul hx hb hdec (k la hT1 (cons_TV (fun v hv => hT2 v (List.mem_cons_of_mem _ (List.mem_cons_of_mem _ hv))) trivial) hl)
  | iand =>
    obtain ⟨x, y, dx, dy, t, rfl, rfl, rfl⟩ := sBin_inv hs
    exact lv_iand hx hb hdec (k la hT1 (cons_TV (fun v hv => hT2 v (List.mem_cons_of_mem _ (List.mem_cons_of_mem _ hv))) trivial) hl)
  | ior =>
    obtain ⟨x, y, dx, dy, t, rfl, rfl, rfl⟩ := sBin_inv hs
    exact lv_ior hx hb hdec (k la hT1 (cons_TV (fun v hv => hT2 v (List.mem_cons_of_mem _ (List.mem_cons_of_mem _ hv))) trivial) hl)
  | ixor =>
    obtain ⟨x, y, dx, dy, t, rfl, rfl, rfl⟩ := sBin_inv hs
    exact lv_ixor hx hb hdec (k la hT1 (cons_TV (fun v hv => hT2 v (List.mem_cons_of_mem _ (List.mem_cons_of_mem _ hv))) trivial) hl)
  | ishl =>
    obtain ⟨x, y, dx, dy, t, rfl, rfl, rfl⟩ := sBin_inv hs
    exact lv_ishl hx hb hdec (k la hT1 (cons_TV (fun v hv => hT2 v (List.mem_cons_of_mem _ (List.mem_cons_of_mem _ hv))) trivial) hl)
  | ishr =>
    obtain ⟨x, y, dx, dy, t, rfl, rfl, rfl⟩ := sBin_inv hs
    exact lv_ishr hx hb hdec (k la hT1 (cons_TV (fun v hv => hT2 v (List.mem_cons_of_mem _ (List.mem_cons_of_mem _ hv))) trivial) hl)
  | iushr =>
    obtain ⟨x, y, dx, dy, t, rfl, rfl, rfl⟩ := sBin_inv hs
    exact lv_iushr hx hb hdec rfl (k la hT1 (cons_TV (fun v hv => hT2 v (List.mem_cons_of_mem _ (List.mem_cons_of_mem _ hv))) trivial) hl)
  | ineg =>
    obtain ⟨x, dx, t, rfl, rfl, rfl⟩ := sUn_inv hs
    exact lv_ineg hx hb hdec (k la hT1 (cons_TV (fun v hv => hT2 v (List.mem_cons_of_mem _ hv)) trivial) hl)
  | i2b =>
    obtain ⟨x, dx, t, rfl, rfl, rfl⟩ := sUn_inv hs
    exact lv_i2b hx hb hdec rfl (k la hT1 (cons_TV (fun v hv => hT2 v (List.mem_cons_of_mem _ hv)) trivial) hl)
  | i2s =>
    obtain ⟨x, dx, t, rfl, rfl, rfl⟩ := sUn_inv hs
    exact lv_i2s hx hb hdec rfl (k la hT1 (cons_TV (fun v hv => hT2 v (List.mem_cons_of_mem _ hv)) trivial) hl)
  | i2c =>
    obtain ⟨x, dx, t, rfl, rfl, rfl⟩ := sUn_inv hs
    exact lv_i2c hx hb hdec rfl (k la hT1 (cons_TV (fun v hv => hT2 v (List.mem_cons_of_mem _ hv)) trivial) hl)
  | ladd =>
    obtain ⟨x, y, dx, dy, t, rfl, rfl, rfl⟩ := sBinL_inv hs
    exact lv_ladd hx hb hdec (k la hT1 (cons_TV (fun v hv => hT2 v (List.mem_cons_of_mem _ (List.mem_cons_of_mem _ hv))) trivial) hl)
  | lsub =>
    obtain ⟨x, y, dx, dy, t, rfl, rfl, rfl⟩ := sBinL_inv hs
    exact lv_lsub hx hb hdec (k la hT1 (cons_TV (fun v hv => hT2 v (List.mem_cons_of_mem _ (List.mem_cons_of_mem _ hv))) trivial) hl)
  | lmul =>
    obtain ⟨x, y, dx, dy, t, rfl, rfl, rfl⟩ := sBinL_inv hs
    exact lv_lmul hx hb hdec (k la hT1 (cons_TV (fun v hv => hT2 v (List.mem_cons_of_mem _ (List.mem_cons_of_mem _ hv))) trivial) hl)
  | land =>
    obtain ⟨x, y, dx, dy, t, rfl, rfl, rfl⟩ := sBinL_inv hs
    exact lv_land hx hb hdec (k la hT1 (cons_TV (fun v hv => hT2 v (List.mem_cons_of_mem _ (List.mem_cons_of_mem _ hv))) trivial) hl)
  | lor =>
    obtain ⟨x, y, dx, dy, t, rfl, rfl, rfl⟩ := sBinL_inv hs
    exact lv_lor hx hb hdec (k la hT1 (cons_TV (fun v hv => hT2 v (List.mem_cons_of_mem _ (List.mem_cons_of_mem _ hv))) trivial) hl)
  | lshl =>
    obtain ⟨x, y, dx, dy, t, rfl, rfl, rfl⟩ := sShL_inv hs
    exact lv_lshl hx hb hdec rfl (k la hT1 (cons_TV (fun v hv => hT2 v (List.mem_cons_of_mem _ (List.mem_cons_of_mem _ hv))) trivial) hl)
  | i2l =>
    obtain ⟨x, dx, t, rfl, rfl, rfl⟩ := sIL_inv hs
    exact lv_i2l hx hb hdec rfl (k la hT1 (cons_TV (fun v hv => hT2 v (List.mem_cons_of_mem _ hv)) trivial) hl)
  | l2i =>
    obtain ⟨x, dx, t, rfl, rfl, rfl⟩ := sLI_inv hs
    exact lv_l2i hx hb hdec rfl (k la hT1 (cons_TV (fun v hv => hT2 v (List.mem_cons_of_mem _ hv)) trivial) hl)
  | lcmp =>
    obtain ⟨x, y, dx, dy, t, rfl, rfl, rfl⟩ := sCmp_inv hs
    exact W.lcmp hx hb hdec (k la hT1 (cons_TV (fun v hv => hT2 v (List.mem_cons_of_mem _ (List.mem_cons_of_mem _ hv))) trivial) hl)
  | dup =>
    obtain ⟨v, t, rfl, hc, rfl, rfl⟩ := sDup_inv hs
    exact lv_dup hx hb hdec (by rw [cv_cat]; exact hc) (k la hT1 (cons_TV hT2 (hT2 _ List.mem_cons_self)) hl)
  | dup2 =>
    obtain ⟨v, u, t, rfl, hc, hd, rfl, rfl⟩ := sDup2_inv hs
    exact lv_dup2_11 hx hb hdec (by rw [cv_cat]; exact hc) (by rw [cv_cat]; exact hd) (k la hT1 (cons_TV (cons_TV hT2 (hT2 _ (List.mem_cons_of_mem _ List.mem_cons_self))) (hT2 _ List.mem_cons_self)) hl)
  | pop =>
    obtain ⟨x, dx, rfl, rfl⟩ := sPop_inv hs
    exact lv_pop hx hb hdec rfl (k la hT1 (fun v hv => hT2 v (List.mem_cons_of_mem _ hv)) hl)
  | _ => cases hs
