/-! THE CLAIM OUT OF ONE WALK OF THE LAW'S BODY. Your part is whole_start (and what it stands on); all else here is the same for every law, but numbers. -/
def R_law : String := "FalseNotesLaw"
def lw_P (b : Addr) (xs : List Int32) (args : Array Value) (s : State) : Prop := args = #[.ref b] ∧ s.IntsAt b xs ∧ xs.length ≤ 3072 ∧ (Jvm.Cond.and given_1 narrow_1).before args s = true
def lw_Q (_ : Array Value) (s : State) (o : Outcome) (t : State) : Prop := o = .returned (some (.int 1)) ∧ Framed s o t [] 600000 7302250
def lw_Z (below : List Frame) (a : Array Value) (s : State) : State → Prop := fun t => ∃ o, t.status = .running ∧ Ended t below o ∧ lw_Q a s o t
/-- the law's own end, with 1 on the stack, nothing written that was there before, its room as the claim has it -/
theorem lw_ret {p : Program} {l : Launch} {e : Env} {s : State} {m : MethodId} {below : List Frame} {meth : Method} {c : Code} {b : Nat} (hx : p.tables.exec = Jvm.exec) (hb : c.code = code) (hr : meth.sig.returnType = ret) (hlocks : meth.locks = false) {pc : Nat} {H : Heap} {ls : Array Slot} (hdg : decode code pc = .ok (.ireturn, 1)) : W p l e room_1 s m #[Value.ref b] below meth c H [] 600000 7302250 (lw_Z below #[Value.ref b] s) (F0 m pc ls [.int 1]) := by
  intro T hT X
  obtain ⟨fs, hret, hrun, hended, hW, hframe⟩ := X.leave (v := some (.int 1)) (hlocks := hlocks) (fun h => by rw [hr] at h; cases h)
  have hmeth' : T.vm.method? m = some meth := X.method'
  refine ⟨T.setFrames fs, ?_, .returned (some (.int 1)), hrun, hended, rfl, ⟨_, rfl⟩, hW, hframe⟩
  jvm_step X.here [X.here.top, hx, hb, hdg, hmeth', hr, ret, narrow_b1]
  (try refine ⟨rfl, ?_⟩); (try refine ⟨rfl, ?_⟩)
  first | (intro acts; rw [hret _ acts rfl rfl rfl]) | rw [hret _ _ rfl rfl rfl]
  exact Steps.refl _
/-- what holds at the law's entry: the machine, the code, the tables' words (any of lw_tbl by 'hts w (by decide +kernel)'), the script of L ints xs at the cell b, what the Statement gives of the start (any of its parts by flat_of_before) -/
def lw_At (p : Program) (s : State) (m : MethodId) (meth : Method) (c : Code) (b L : Nat) (xs : Nat → Int32) : Prop :=
  p.tables.exec = Jvm.exec ∧ c.code = code ∧ meth.sig.returnType = ret ∧ c.maxLocals = 4 ∧ s.vm.findClass R_law = some m.cls ∧ (∀ w ∈ lw_tbl, w.before #[Value.ref b] s = true) ∧ va_X b L xs s s.heap ∧ b < s.heap.size ∧ meth.locks = false ∧ (Jvm.Cond.and given_1 narrow_1).before #[Value.ref b] s = true
/-- what stands through the law's loop -/
def LWC (p : Program) (s : State) (m : MethodId) (meth : Method) (c : Code) (b L : Nat) (xs : Nat → Int32) (E : EnvT) : Prop := CallFix p m c code 4 s #[Value.ref b] (WS m_FN_status) "FalseNotesLaw" ∧ KK E s ∧ DX E ∧ eB E = s.heap.size ∧ va_X b L xs s s.heap ∧ b < s.heap.size ∧ L ≤ 3072 ∧ meth.sig.returnType = ret ∧ meth.locks = false
def lvL (b : Nat) (E : EnvT) (i : Nat) : List (Nat × Value) := [(3, .int (iN (i : Int))), (2, .ref (al E 24 41)), (1, .ref (al E 0 0)), (0, .ref b)]
def ldOK (pc j : Nat) : Bool := decide (decode code pc = .ok (.aload_n 0, 1)) && (decide (decode code (pc + 1) = .ok (.iload_n 3, 1)) && (decide (decode code (pc + 2) = .ok (.iconst (j : Int), 1)) && (decide (decode code (pc + 3) = .ok (.iadd, 1)) && decide (decode code (pc + 4) = .ok (.iaload, 1)))))
def ldsOK : Nat → List Nat → Bool
  | _, [] => true
  | pc, j :: js => ldOK pc j && ldsOK (pc + 5) js
theorem lc_ld {p : Program} {l : Launch} {e : Env} {s : State} {m : MethodId} {below : List Frame} {meth : Method} {c : Code} {b L : Nat} {xs : Nat → Int32} {E : EnvT} {H : Heap} {locs : List Loc} {ls : Array Slot} {i : Nat} {Q : State → Prop} {pc j : Nat} {st : List Value} (C : LWC p s m meth c b L xs E) (hl : lv_has ls 4 (lvL b E i)) (hS : va_S (Ab E) s.heap H locs) (hj : i + j < L) (hd : ldOK pc j = true) (kk : W p l e room_1 s m #[Value.ref b] below meth c H locs 153 11168 Q (F0 m (pc + 5) ls (.int (xs (i + j)) :: st))) : W p l e room_1 s m #[Value.ref b] below meth c H locs 153 11168 Q (F0 m pc ls st) := by
  obtain ⟨S, hKK, hDX, hbs, hX, hbl, hL, hr, hlk⟩ := C
  simp only [ldOK, Bool.and_eq_true, decide_eq_true_eq] at hd
  obtain ⟨d0, d1, d2, d3, d4⟩ := hd
  have hbA : ¬ Ab E b := by
    show ¬ eB E ≤ b
    omega
  refine lv_aload_n S.1 S.2.1 d0 rfl (lv_at hl 3 rfl) ?_
  refine lv_iload_n S.1 S.2.1 d1 rfl (lv_at hl 0 rfl) ?_
  refine lv_iconst (v := iN (j : Int)) S.1 S.2.1 d2 rfl ?_
  refine lv_iadd S.1 S.2.1 d3 ?_
  rw [iN_add, show (i : Int) + (j : Int) = ((i + j : Nat) : Int) by omega]
  refine va_sld S.1 S.2.1 hX hbl hbA hS (iN_in (by omega) (by omega) (by omega)) d4 ?_
  rw [iN_clN (by omega)]
  exact kk
theorem lc_lds {p : Program} {l : Launch} {e : Env} {s : State} {m : MethodId} {below : List Frame} {meth : Method} {c : Code} {b L : Nat} {xs : Nat → Int32} {E : EnvT} {H : Heap} {locs : List Loc} {ls : Array Slot} {i : Nat} {Q : State → Prop} (C : LWC p s m meth c b L xs E) (hl : lv_has ls 4 (lvL b E i)) (hS : va_S (Ab E) s.heap H locs) (hi : i + 6 ≤ L) : ∀ (js : List Nat) (pc : Nat) (st : List Value), (∀ j ∈ js, j ≤ 5) → ldsOK pc js = true → (W p l e room_1 s m #[Value.ref b] below meth c H locs 153 11168 Q (F0 m (pc + 5 * js.length) ls ((js.map (fun j => Value.int (xs (i + j)))).reverse ++ st))) → W p l e room_1 s m #[Value.ref b] below meth c H locs 153 11168 Q (F0 m pc ls st) := by
  intro js
  induction js with
  | nil =>
    intro pc st _ _ kk
    rw [List.length_nil, Nat.mul_zero, Nat.add_zero, List.map_nil, List.reverse_nil, List.nil_append] at kk
    exact kk
  | cons j js ih =>
    intro pc st hj hd kk
    have hd : (ldOK pc j && ldsOK (pc + 5) js) = true := hd
    rw [Bool.and_eq_true] at hd
    have h1 := hj j List.mem_cons_self
    refine lc_ld C hl hS (by omega) hd.1 ?_
    refine ih (pc + 5) _ (fun k hk => hj k (List.mem_cons_of_mem _ hk)) hd.2 ?_
    rw [List.map_cons, List.reverse_cons, List.append_assoc, List.length_cons, show pc + 5 * (js.length + 1) = pc + 5 + 5 * js.length by omega] at kk
    exact kk
theorem lc_st {E : EnvT} {xs : Nat → Int32} {i r0 dd0 : Nat} {js : List Nat} {rest : List AV} (h : dd0 ≠ 999) : (js.map (fun j => Value.int (xs (i + j)))).reverse ++ (Value.ref (al E r0 dd0) :: rest.map (cv E)) = ((js.map (fun j => ((Value.int (xs (i + j)), 0) : AV))).reverse ++ ((Value.ref r0, dd0) : AV) :: rest).map (cv E) := by
  rw [List.map_append, List.map_reverse, List.map_map, List.map_cons, cv_al E h]
  rfl
theorem lc_TV {xs : Nat → Int32} {i : Nat} : ∀ (js : List Nat), ∀ v ∈ js.map (fun j => ((Value.int (xs (i + j)), 0) : AV)), TV v
  | [], v, hv => by cases hv
  | j :: js, v, hv => by
    rcases List.mem_cons.mp hv with rfl | hv
    · trivial
    · exact lc_TV js v hv
theorem csum_push (cal : MI) (r : AV) : csum (pushR cal r []) ≤ 8 := by
  unfold pushR
  split
  · exact Nat.zero_le _
  · exact Nat.le_of_ble_eq_true rfl
  · exact Nat.le_of_ble_eq_true rfl
  · exact Nat.le_of_ble_eq_true rfl
theorem lc_call {p : Program} {l : Launch} {e : Env} {s : State} {m : MethodId} {below : List Frame} {meth : Method} {c : Code} {b L : Nat} {xs : Nat → Int32} {E : EnvT} {H : Heap} {locs : List Loc} {ls : Array Slot} {i : Nat} {Q : State → Prop} {cal : MI} {K : AV → Mem → Prop} {as rest : List AV} {M : Mem} {pc idx k r0 dd0 : Nat} (C : LWC p s m meth c b L xs E) (hM : CT l E 20 cal ((.ref r0, dd0) :: as) M K) (hok : okM cal = true) (hkd : cal.2.2.2.2.2.1 = 1 ∧ (dsc dd0).2.1 = cal.2.2.2.2.2.2.1) (hcl : dd0 ≠ 999 ∧ (r0, dd0) ∈ CL) (hlk : lw_tbl[k]? = some (.methodLink "FalseNotesLaw" idx cal.1)) (hn : as.length = cal.2.2.2.2.1) (hT1 : ∀ v ∈ as, TV v) (hT : ∀ v ∈ rest, TV v) (hH : HX E M H) (hS : va_S (Ab E) s.heap H locs) (hl : lv_has ls 4 (lvL b E i)) (hcs : csum rest ≤ 8) (hdg : decode code pc = .ok (.invokevirtual idx, 3))
    (kk : ∀ (r : AV) (M' : Mem), K r M' → ∀ (H' : Heap) (locs' : List Loc), HX E M' H' → va_S (Ab E) s.heap H' locs' → (∀ v ∈ pushR cal r rest, TV v) → W p l e room_1 s m #[Value.ref b] below meth c H' locs' 153 11168 Q (F0 m (pc + 3) ls ((pushR cal r rest).map (cv E)))) :
    W p l e room_1 s m #[Value.ref b] below meth c H locs 153 11168 Q (F0 m pc ls ((as.reverse ++ (.ref r0, dd0) :: rest).map (cv E))) :=
  callV_ok (mi := m_FN_status) C.1 C.2.1 C.2.2.1 (Nat.le_of_eq C.2.2.2.1) hM hok (Or.inl hkd) hlk ⟨Nat.le_of_ble_eq_true rfl, Nat.le_of_ble_eq_true rfl⟩ hn (cons_TV hT1 (Or.inr hcl)) hT hH hS hl.1 hcs hdg ⟨Nat.le_of_ble_eq_true rfl, Nat.le_of_ble_eq_true rfl⟩ kk
def caseOK (clF clM : MI) (pc : Nat) (js : List Nat) (idF idM kF kM : Nat) : Bool :=
  okM clF && (okM clM && (decide (clF.2.2.2.2.2.1 = 1 ∧ clF.2.2.2.2.2.2.1 = 10 ∧ clM.2.2.2.2.2.1 = 1 ∧ clM.2.2.2.2.2.2.1 = 11 ∧ js.length = clF.2.2.2.2.1 ∧ js.length = clM.2.2.2.2.1) && (decide (lw_tbl[kF]? = some (.methodLink "FalseNotesLaw" idF clF.1)) && (decide (lw_tbl[kM]? = some (.methodLink "FalseNotesLaw" idM clM.1)) && (decide (decode code pc = .ok (.aload_n 1, 1)) && (ldsOK (pc + 1) js && (decide (decode code (pc + 1 + 5 * js.length) = .ok (.invokevirtual idF, 3)) && (decide (decode code (pc + 1 + 5 * js.length + 3) = .ok (.aload_n 2, 1)) && (ldsOK (pc + 1 + 5 * js.length + 3 + 1) js && decide (decode code (pc + 1 + 5 * js.length + 3 + 1 + 5 * js.length) = .ok (.invokevirtual idM, 3)))))))))))
theorem dsc_0 : (dsc 0).2.1 = 10 := by decide +kernel
theorem dsc_41 : (dsc 41).2.1 = 11 := by decide +kernel
theorem in_0 : (0, 0) ∈ CL := by decide +kernel
theorem in_24 : (24, 41) ∈ CL := by decide +kernel
theorem lc_pair {p : Program} {l : Launch} {e : Env} {s : State} {m : MethodId} {below : List Frame} {meth : Method} {c : Code} {b L : Nat} {xs : Nat → Int32} {E : EnvT} {H : Heap} {locs : List Loc} {ls : Array Slot} {i : Nat} {Q : State → Prop} {clF clM : MI} {js : List Nat} {pc idF idM kF kM : Nat} {M : Mem} {Z : Ch} {A : Nat → Int} (C : LWC p s m meth c b L xs E) (hl : lv_has ls 4 (lvL b E i)) (hi : i + 6 ≤ L) (hjs : ∀ j ∈ js, j ≤ 5) (hok : caseOK clF clM pc js idF idM kF kM = true)
    (hM : CT l E 20 clF ((.ref 0, 0) :: js.map (fun j => ((Value.int (xs (i + j)), 0) : AV))) (zA M Z A) (fun v1 M1 => CT l E 20 clM ((.ref 24, 41) :: js.map (fun j => ((Value.int (xs (i + j)), 0) : AV))) M1 (fun v2 M2 => PST v1 v2 M2))) (hH : HX E (zA M Z A) H) (hS : va_S (Ab E) s.heap H locs)
    (kk : ∀ (r : AV) (M' : Mem) (Z' : Ch) (A' : Nat → Int) (H' : Heap) (locs' : List Loc), IV M' Z' A' → HX E (zA M' Z' A') H' → va_S (Ab E) s.heap H' locs' → W p l e room_1 s m #[Value.ref b] below meth c H' locs' 153 11168 Q (F0 m (pc + 1 + 5 * js.length + 3 + 1 + 5 * js.length + 3) ls ((pushR clM r (pushR clF r [])).map (cv E)))) : W p l e room_1 s m #[Value.ref b] below meth c H locs 153 11168 Q (F0 m pc ls []) := by
  simp only [caseOK, Bool.and_eq_true, decide_eq_true_eq] at hok
  obtain ⟨o1, o2, ⟨k1, k2, k3, k4, k5, k6⟩, g1, g2, d1, e1, d2, d3, e2, d4⟩ := hok
  refine lv_aload_n C.1.1 C.1.2.1 d1 rfl (lv_at hl 2 rfl) ?_
  refine lc_lds C hl hS hi js (pc + 1) _ hjs e1 ?_
  refine W.eq (g2 := F0 m (pc + 1 + 5 * js.length) ls (((js.map (fun j => ((Value.int (xs (i + j)), 0) : AV))).reverse ++ ((Value.ref 0, 0) : AV) :: []).map (cv E))) (congrArg (F0 m (pc + 1 + 5 * js.length) ls) (lc_st (rest := []) (by decide))) ?_
  refine lc_call C hM o1 ⟨k1, by rw [k2]; exact dsc_0⟩ ⟨by decide, in_0⟩ g1 (by rw [List.length_map]; exact k5) (lc_TV js) (fun v hv => by cases hv) hH hS hl (Nat.zero_le _) d2 (fun r M1 hM1 H1 locs1 hH1 hS1 hT1 => ?_)
  refine lv_aload_n C.1.1 C.1.2.1 d3 rfl (lv_at hl 1 rfl) ?_
  refine lc_lds C hl hS1 hi js (pc + 1 + 5 * js.length + 3 + 1) _ hjs e2 ?_
  refine W.eq (g2 := F0 m (pc + 1 + 5 * js.length + 3 + 1 + 5 * js.length) ls (((js.map (fun j => ((Value.int (xs (i + j)), 0) : AV))).reverse ++ ((Value.ref 24, 41) : AV) :: pushR clF r []).map (cv E))) (congrArg (F0 m (pc + 1 + 5 * js.length + 3 + 1 + 5 * js.length) ls) (lc_st (rest := pushR clF r []) (by decide))) ?_
  refine lc_call C hM1 o2 ⟨k3, by rw [k4]; exact dsc_41⟩ ⟨by decide, in_24⟩ g2 (by rw [List.length_map]; exact k6) (lc_TV js) hT1 hH1 hS1 hl (csum_push clF r) d4 (fun r2 M2 hM2 H2 locs2 hH2 hS2 hT2 => ?_)
  obtain ⟨rfl, M', Z', A', rfl, iv⟩ := hM2
  exact kk r M' Z' A' H2 locs2 iv hH2 hS2
/-- a case of the switch: from its beginning to the loop's step -/
def LCS (p : Program) (l : Launch) (e : Env) (s : State) (m : MethodId) (below : List Frame) (meth : Method) (c : Code) (b : Nat) (E : EnvT) (ls : Array Slot) (Q : State → Prop) (pc : Nat) : Prop :=
  ∀ (M : Mem) (Z : Ch) (A : Nat → Int) (H : Heap) (locs : List Loc), IV M Z A → HX E (zA M Z A) H → va_S (Ab E) s.heap H locs →
    (∀ (M' : Mem) (Z' : Ch) (A' : Nat → Int) (H' : Heap) (locs' : List Loc), IV M' Z' A' → HX E (zA M' Z' A') H' → va_S (Ab E) s.heap H' locs' → W p l e room_1 s m #[Value.ref b] below meth c H' locs' 153 11168 Q (F0 m 1915 ls [])) →
    W p l e room_1 s m #[Value.ref b] below meth c H locs 153 11168 Q (F0 m pc ls [])
theorem lc_I {p : Program} {l : Launch} {e : Env} {s : State} {m : MethodId} {below : List Frame} {meth : Method} {c : Code} {b L : Nat} {xs : Nat → Int32} {E : EnvT} {ls : Array Slot} {i : Nat} {Q : State → Prop} {clF clM : MI} {js : List Nat} {pc idF idM kF kM : Nat} {off : Int} (C : LWC p s m meth c b L xs E) (hl : lv_has ls 4 (lvL b E i)) (hi : i + 6 ≤ L) (hjs : ∀ j ∈ js, j ≤ 5) (hok : caseOK clF clM pc js idF idM kF kM = true) (hrF : rk clF.2.2.2.1 = 1) (hrM : rk clM.2.2.2.1 = 1)
    (hd : decode code (pc + 1 + 5 * js.length + 3 + 1 + 5 * js.length + 3) = .ok (.if_icmp .eq off, 3)) (ht : ((pc + 1 + 5 * js.length + 3 + 1 + 5 * js.length + 3 : Nat) : Int) + off = ((1915 : Nat) : Int))
    (hM : ∀ (M : Mem) (Z : Ch) (A : Nat → Int), IV M Z A → CT l E 20 clF ((.ref 0, 0) :: js.map (fun j => ((Value.int (xs (i + j)), 0) : AV))) (zA M Z A) (fun v1 M1 => CT l E 20 clM ((.ref 24, 41) :: js.map (fun j => ((Value.int (xs (i + j)), 0) : AV))) M1 (fun v2 M2 => PST v1 v2 M2))) : LCS p l e s m below meth c b E ls Q pc := by
  intro M Z A H locs iv hH hS kk
  refine lc_pair C hl hi hjs hok (hM M Z A iv) hH hS (fun r M' Z' A' H' locs' iv' hH' hS' => ?_)
  refine W.eq (g2 := F0 m (pc + 1 + 5 * js.length + 3 + 1 + 5 * js.length + 3) ls [.int (toI r), .int (toI r)]) (by unfold pushR; rw [hrM, hrF]; rfl) ?_
  exact lv_icmp_eq C.1.1 C.1.2.1 hd ht (fun _ => kk M' Z' A' H' locs' iv' hH' hS') (fun q => absurd rfl q)
theorem lc_L {p : Program} {l : Launch} {e : Env} {s : State} {m : MethodId} {below : List Frame} {meth : Method} {c : Code} {b L : Nat} {xs : Nat → Int32} {E : EnvT} {ls : Array Slot} {i : Nat} {Q : State → Prop} {clF clM : MI} {js : List Nat} {pc idF idM kF kM : Nat} {off : Int} (C : LWC p s m meth c b L xs E) (hl : lv_has ls 4 (lvL b E i)) (hi : i + 6 ≤ L) (hjs : ∀ j ∈ js, j ≤ 5) (hok : caseOK clF clM pc js idF idM kF kM = true) (hrF : rk clF.2.2.2.1 = 2) (hrM : rk clM.2.2.2.1 = 2)
    (hc : decode code (pc + 1 + 5 * js.length + 3 + 1 + 5 * js.length + 3) = .ok (.lcmp, 1)) (hd : decode code (pc + 1 + 5 * js.length + 3 + 1 + 5 * js.length + 3 + 1) = .ok (.ifCond .eq off, 3)) (ht : ((pc + 1 + 5 * js.length + 3 + 1 + 5 * js.length + 3 + 1 : Nat) : Int) + off = ((1915 : Nat) : Int))
    (hM : ∀ (M : Mem) (Z : Ch) (A : Nat → Int), IV M Z A → CT l E 20 clF ((.ref 0, 0) :: js.map (fun j => ((Value.int (xs (i + j)), 0) : AV))) (zA M Z A) (fun v1 M1 => CT l E 20 clM ((.ref 24, 41) :: js.map (fun j => ((Value.int (xs (i + j)), 0) : AV))) M1 (fun v2 M2 => PST v1 v2 M2))) : LCS p l e s m below meth c b E ls Q pc := by
  intro M Z A H locs iv hH hS kk
  refine lc_pair C hl hi hjs hok (hM M Z A iv) hH hS (fun r M' Z' A' H' locs' iv' hH' hS' => ?_)
  refine W.eq (g2 := F0 m (pc + 1 + 5 * js.length + 3 + 1 + 5 * js.length + 3) ls [.long (toL r), .long (toL r)]) (by unfold pushR; rw [hrM, hrF]; rfl) ?_
  refine W.lcmp C.1.1 C.1.2.1 hc ?_
  exact lv_if_eq C.1.1 C.1.2.1 hd ht (fun _ => kk M' Z' A' H' locs' iv' hH' hS') (fun q => absurd (by simp [lg_cmp]) q)
def lw_v (x y : Int32) : Int64 := (x.toInt64 <<< ((32 : Int32).toInt64 &&& 63)) ||| (y.toInt64 &&& 4294967295)
def lwOK (pc : Nat) : Bool := ldsOK pc [3] && (decide (decode code (pc + 5) = .ok (.i2l, 1)) && (decide (decode code (pc + 6) = .ok (.bipush 32, 2)) && (decide (decode code (pc + 8) = .ok (.lshl, 1)) && (ldsOK (pc + 9) [4] && (decide (decode code (pc + 14) = .ok (.i2l, 1)) && (decide (decode code (pc + 15) = .ok (.ldc2_w 32, 3)) && (decide (decode code (pc + 18) = .ok (.land, 1)) && decide (decode code (pc + 19) = .ok (.lor, 1)))))))))
theorem lc_lw {p : Program} {l : Launch} {e : Env} {s : State} {m : MethodId} {below : List Frame} {meth : Method} {c : Code} {b L : Nat} {xs : Nat → Int32} {E : EnvT} {H : Heap} {locs : List Loc} {ls : Array Slot} {i : Nat} {Q : State → Prop} {pc : Nat} {st : List Value} (C : LWC p s m meth c b L xs E) (hl : lv_has ls 4 (lvL b E i)) (hS : va_S (Ab E) s.heap H locs) (hi : i + 6 ≤ L) (hd : lwOK pc = true) (kk : W p l e room_1 s m #[Value.ref b] below meth c H locs 153 11168 Q (F0 m (pc + 20) ls (.long (lw_v (xs (i + 3)) (xs (i + 4))) :: st))) : W p l e room_1 s m #[Value.ref b] below meth c H locs 153 11168 Q (F0 m pc ls st) := by
  simp only [lwOK, Bool.and_eq_true, decide_eq_true_eq] at hd
  obtain ⟨e1, d1, d2, d3, e2, d4, d5, d6, d7⟩ := hd
  refine lc_lds C hl hS hi [3] pc st (by decide) e1 ?_
  refine lv_i2l (x := xs (i + 3)) C.1.1 C.1.2.1 d1 rfl ?_
  refine lv_bipush (v := 32) C.1.1 C.1.2.1 d2 (by decide +kernel) ?_
  refine lv_lshl C.1.1 C.1.2.1 d3 rfl ?_
  refine lc_lds C hl hS hi [4] (pc + 9) _ (by decide) e2 ?_
  refine lv_i2l (x := xs (i + 4)) C.1.1 C.1.2.1 d4 rfl ?_
  refine lv_ldc2 (v := 4294967295) C.1.1 C.1.2.1 C.1.2.2.2.1 (C.1.2.2.2.2 _ (in_WS (h := 2190) (by decide +kernel) rfl)) d5 ?_
  refine lv_land C.1.1 C.1.2.1 d6 ?_
  refine lv_lor C.1.1 C.1.2.1 d7 ?_
  exact kk
