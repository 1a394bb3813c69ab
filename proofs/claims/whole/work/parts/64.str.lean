def CTv (l : Launch) (E : EnvT) (d : Nat) (mi : MI) (vs : List Value) (M : Mem) (K : AV → Mem → Prop) : Prop := Met l mi.1 (WS mi) (rmD d) (va_Pc vs (fun U => HX E M U.heap ∧ KK E U ∧ DX E ∧ eB E ≤ U.heap.size)) (QQ E mi K) 0 0 (Ab E)
theorem CTv.of {l : Launch} {E : EnvT} {d : Nat} {mi : MI} {vs : List Value} {M : Mem} {K : AV → Mem → Prop} (hy : plainFor mi.1 = true) (g : ∀ (p : Program) (e : Env) (s : State) (m : MethodId) (args : Array Value) (below : List Frame) (meth : Method) (c : Code), CX E mi p s m args meth c → HX E M s.heap → W p l e (rmD d) s m args below meth c s.heap [] 0 0 (MQ below (QQ E mi K) args s 0 0 (Ab E)) (F0 m 0 ((lg_sl vs ++ List.replicate (mi.2.2.1 - (lg_sl vs).length) Slot.unset).toArray) [])) : CTv l E d mi vs M K := by
  refine va_MetF (cc := mi.2.1) (maxL := mi.2.2.1) (ret := mi.2.2.2.1) hy rfl ?_
  intro p e s m args below meth c s₁ B hml hv
  obtain ⟨rfl, hH, hK, hD, hb⟩ := hv
  rw [lg_entry_eq]
  exact g p e s m _ below meth c ⟨B.exec, B.bytes, hml, findClass_of_methodNamed B.named, atoms_spec (ws := WS mi) B.pre, B.returns, B.notSynchronized, hK, hD, hb⟩ hH
theorem CT.ofv {l : Launch} {E : EnvT} {d : Nat} {mi : MI} {as : List AV} {M : Mem} {K : AV → Mem → Prop} (h : CTv l E d mi (as.map (cv E)) M K) : CT l E d mi as M K := fun _ => h
theorem CTv.ofCT {l : Launch} {E : EnvT} {d : Nat} {mi : MI} {as : List AV} {M : Mem} {K : AV → Mem → Prop} (hT : ∀ a ∈ as, TV a) (h : CT l E d mi as M K) : CTv l E d mi (as.map (cv E)) M K := h hT
theorem CTv.blind {E : EnvT} {vs : List Value} {M : Mem} : FrameBlind (va_Pc vs (fun U => HX E M U.heap ∧ KK E U ∧ DX E ∧ eB E ≤ U.heap.size)) := by
  intro a U g mk h
  obtain ⟨h1, h2, h3, h4, h5⟩ := h
  exact ⟨h1, h2, h3.call g mk a, h4, h5⟩
theorem CTv.pre {E : EnvT} {vs : List Value} {M : Mem} {s : State} {H : Heap} {locs : List Loc} (hKK : KK E s) (hDX : DX E) (hbs : eB E ≤ s.heap.size) (hH : HX E M H) (hS : va_S (Ab E) s.heap H locs) : ∀ U : State, U.heap = H → s.WarmedH U.vm → va_Pc vs (fun U => HX E M U.heap ∧ KK E U ∧ DX E ∧ eB E ≤ U.heap.size) vs.toArray U := by
  intro U hU hW
  exact ⟨rfl, by rw [hU]; exact hH, hKK.move hS hU hW, hDX, by rw [hU]; exact Nat.le_trans hbs hS.1⟩
theorem callv_go {l : Launch} {E : EnvT} {cal : MI} {K : AV → Mem → Prop} {rest : List Value} {st0 : List Value} {a : Array Value} {pc : Nat} {Q : State → Prop} {p : Program} {e : Env} {R : Room} {s : State} {m : MethodId} {args : Array Value} {below : List Frame} {meth : Method} {c : Code} {H : Heap} {locs : List Loc} {la : Array Slot} {cells slots : Nat}
    (hr : va_Run p l e R s m args below meth c H locs cells slots 0 0 (F0 m pc la st0) rest (QQ E cal K a) (Ab E)) (hS : va_S (Ab E) s.heap H locs)
    (kk : ∀ (r : AV) (M' : Mem), K r M' → ∀ (H' : Heap) (locs' : List Loc) (v : Option Value), Qr cal E r (.returned v) → HX E M' H' → va_S (Ab E) s.heap H' locs' → W p l e R s m args below meth c H' locs' cells slots Q (F0 m (pc + 3) la (v.toList ++ rest))) :
    W p l e R s m args below meth c H locs cells slots Q (F0 m pc la st0) := by
  intro T hT0 X
  obtain ⟨v, st₀, t, T', L, h0, X', hL, e1, e2, ⟨⟨r, M', hK, hQ, hH⟩, hz, hk⟩, stp⟩ := hr T hT0 X
  rw [h0] at hz hk
  have hS' : va_S (Ab E) s.heap T'.heap (locs ++ L) := ⟨Nat.le_trans hS.1 (by rw [e1]; exact hz), fun q h1 h2 => by rw [e1, hk q (Nat.lt_of_lt_of_le h1 hS.1) h2]; exact hS.2.1 q h1 h2, fun q hq => by
      rcases List.mem_append.mp hq with h | h
      · exact hS.2.2 q h
      · exact hL q h⟩
  obtain ⟨t2, a1, b1⟩ := kk r M' hK T'.heap (locs ++ L) v hQ (by rw [e1]; exact hH) hS' T' rfl X'
  exact ⟨t2, stp t2 a1, b1⟩
theorem callSv {l : Launch} {E : EnvT} {dc : Nat} {cal : MI} {K : AV → Mem → Prop} {vs rest : List Value} {M : Mem} {pc idx i : Nat} {Q : State → Prop} {p : Program} {e : Env} {R : Room} {s : State} {m : MethodId} {args : Array Value} {below : List Frame} {meth : Method} {c : Code} {H : Heap} {locs : List Loc} {la : Array Slot} {cells slots nL : Nat} {cc : ByteArray} {own : String} {mi : MI}
    (S : CallFix p m c cc nL s args (WS mi) own) (hKK : KK E s) (hDX : DX E) (hbs : eB E ≤ s.heap.size) (hM : CTv l E dc cal vs M K) (hok : okM cal = true) (hkd : cal.2.2.2.2.2.1 = 0) (hlk : lw_tbl[i]? = some (.methodLink own idx cal.1)) (hR : dc + 1 ≤ R.frames ∧ 64 * (dc + 1) ≤ R.locals) (hn : vs.length = cal.2.2.2.2.1)
    (hH : HX E M H) (hS : va_S (Ab E) s.heap H locs) (hsz : la.size = nL) (hcs : (rest.map fun v => v.category).sum ≤ 8) (hdg : decode cc pc = .ok (.invokestatic idx, 3)) (hf : cells ≤ R.cells ∧ slots ≤ R.slots)
    (kk : ∀ (r : AV) (M' : Mem), K r M' → ∀ (H' : Heap) (locs' : List Loc) (v : Option Value), Qr cal E r (.returned v) → HX E M' H' → va_S (Ab E) s.heap H' locs' → W p l e R s m args below meth c H' locs' cells slots Q (F0 m (pc + 3) la (v.toList ++ rest))) :
    W p l e R s m args below meth c H locs cells slots Q (F0 m pc la (vs.reverse ++ rest)) := by
  simp only [okM, Bool.and_eq_true, decide_eq_true_eq, hkd, if_true] at hok
  obtain ⟨h1, h2, h3, h4, h5⟩ := hok
  refine callv_go (va_runS (As := vs) S hM (va_cwS (mc := 0) (ms := 0) (ws' := lw_tbl.filter goodWord) cal.2.2.2.2.1 S.2.2.2.2 (GoodIn_WS (extra := [.methodLink own idx cal.1, .static cal.1, .initialized cal.1.cls]) ?_ ?_ h1) rfl rfl rfl h4 ⟨?_, ?_⟩) ⟨CTv.blind, CTv.pre hKK hDX hbs hH hS⟩ rfl hn hsz rfl (lv_room hcs) hdg hf) hS kk
  · intro w hw
    simp only [List.mem_cons, List.not_mem_nil, or_false] at hw
    rcases hw with rfl | rfl | rfl
    · exact ⟨_, hlk⟩
    · exact ⟨_, h5⟩
    · exact ⟨_, h2⟩
  · intro w hw
    simp only [List.mem_cons, List.not_mem_nil, or_false] at hw
    rcases hw with rfl | rfl | rfl <;> rfl
  · exact hR.1
  · show 8 + (cal.2.2.1 + 11) + 64 * dc ≤ R.locals
    omega
theorem ret_int {l : Launch} {E : EnvT} {d : Nat} {mi : MI} {M : Mem} {K : AV → Mem → Prop} {p : Program} {e : Env} {s : State} {m : MethodId} {args : Array Value} {below : List Frame} {meth : Method} {c : Code} {H : Heap} {locs : List Loc} {la : Array Slot} {pc : Nat} {x : Int32} {ty : FieldType} (hC : CX E mi p s m args meth c) (hret : mi.2.2.2.1 = some ty) (hrk : rk mi.2.2.2.1 = 1) (hn : narrow ty (.int x) = .int x) (hH : HX E M H) (hS : va_S (Ab E) s.heap H locs) (hdec : decode mi.2.1 pc = .ok (.ireturn, 1)) (h : K (.int x, 0) M) : W p l e (rmD d) s m args below meth c H locs 0 0 (MQ below (QQ E mi K) args s 0 0 (Ab E)) (F0 m pc la [.int x]) := by
  obtain ⟨hx, hb, hml, hown, hts, hr, hlocks, hKK, hDX, hbs⟩ := hC
  rw [hret] at hr
  exact W.zret (ty := ty) hx hb hr hn (fun t ht hW => ⟨⟨(.int x, 0), M, h, by unfold Qr; rw [hrk]; exact ⟨x, rfl, rfl⟩, by rw [ht]; exact hH⟩, hS.F ht⟩) hS.2.2 hdec
theorem v_pIndex {l : Launch} {E : EnvT} {d : Nat} {K : AV → Mem → Prop} {M : Mem} {x y : Int32} {v : Value} (h0 : ¬ x < 0) (h1 : x < y) (h : K (.int x, 0) M) : CTv l E d m_Precond_checkIndex [.int x, .int y, v] M K := by
  refine CTv.of (by decide +kernel) ?_
  intro p e s m args below meth c hC hH
  have hC0 := hC
  obtain ⟨hx, hb, hml, hown, hts, hr, hlocks, hKK, hDX, hbs⟩ := hC
  generalize hla : (lg_sl [.int x, .int y, v] ++ List.replicate (m_Precond_checkIndex.2.2.1 - (lg_sl [.int x, .int y, v]).length) Slot.unset).toArray = la
  have l0 : la[0]? = some (.val (.int x)) := by rw [← hla]; rfl
  have l1 : la[1]? = some (.val (.int y)) := by rw [← hla]; rfl
  refine lv_iload_n hx hb (k := 0) (i := 0) (by decide +kernel) rfl l0 ?_
  refine lv_if_lt hx hb (off := 8) (tgt := 9) (by decide +kernel) (by decide) (fun q => absurd q h0) (fun _ => ?_)
  refine lv_iload_n hx hb (k := 0) (i := 0) (by decide +kernel) rfl l0 ?_
  refine lv_iload_n hx hb (k := 1) (i := 1) (by decide +kernel) rfl l1 ?_
  refine lv_icmp_lt hx hb (off := 10) (tgt := 16) (by decide +kernel) (by decide) (fun _ => ?_) (fun q => absurd h1 q)
  refine lv_iload_n hx hb (k := 0) (i := 0) (by decide +kernel) rfl l0 ?_
  exact ret_int (ty := .int) hC0 rfl rfl rfl hH va_S.rf (by decide +kernel) h
theorem c_sIndex {l : Launch} {E : EnvT} {d : Nat} {K : AV → Mem → Prop} {M : Mem} {x y : Int32} (hd : 2 ≤ d) (h0 : ¬ x < 0) (h1 : x < y) (h : K (.null, 0) M) : CT l E d m_Str_checkIndex [(.int x, 0), (.int y, 0)] M K := by
  refine CT.ofF (by decide +kernel) (Nat.le_of_ble_eq_true rfl) ?_
  intro p e s m args below meth c H locs la hC hH hS hT1 hT2 hl
  have hC0 := hC
  obtain ⟨hx, hb, hml, hown, hts, hr, hlocks, hKK, hDX, hbs⟩ := hC
  have l0 : la[0]? = some (.val (.int x)) := cvl_lget (v := (.int x, 0)) hl rfl
  have l1 : la[1]? = some (.val (.int y)) := cvl_lget (v := (.int y, 0)) hl rfl
  obtain ⟨v, hv⟩ := hKK.2.2.1.2
  refine lv_iload_n hx hb (k := 0) (i := 0) (by decide +kernel) rfl l0 ?_
  refine lv_iload_n hx hb (k := 1) (i := 1) (by decide +kernel) rfl l1 ?_
  refine va_gets hx hb (own := "java/lang/String") (ref := "jdk/internal/util/Preconditions") (index := 1053) hv hS hown (hts _ (in_WS (h := 694) (by decide +kernel) rfl)) (fun _ q => q) (by decide +kernel) ?_
  refine callSv (vs := [.int x, .int y, v]) (rest := []) (dc := d - 1) (i := 696) (idx := 1059) (K := fun _ M' => K (.null, 0) M') ⟨hx, hb, hml, hown, hts⟩ hKK hDX hbs (v_pIndex h0 h1 h) (by decide +kernel) rfl (by decide +kernel) ⟨by show d - 1 + 1 ≤ d; omega, by show 64 * (d - 1 + 1) ≤ 64 * d; omega⟩ rfl hH hS hl.1 (by decide) (by decide +kernel) ⟨Nat.zero_le _, Nat.zero_le _⟩ (fun r M' hk H' locs' w hq hH' hS' => ?_)
  obtain ⟨z, -, hz⟩ : ∃ z, r = (.int z, 0) ∧ Outcome.returned w = .returned (some (.int z)) := hq
  cases hz
  refine lv_pop hx hb (by decide +kernel) rfl ?_
  exact W.vret hx hb hr (fun t ht hW => ⟨⟨(.null, 0), M', hk, rfl, by rw [ht]; exact hH'⟩, hS'.F ht⟩) hS'.2.2 (by decide +kernel)
def strC (k j : Nat) : Int32 := ((((STRB.getD k []).getD j 0) &&& 255).toUInt32 % 65536).toInt32
theorem str_ok : ∀ k, k < 9 → ∀ j : Nat, j < STRN.getD k 0 → (¬ iN (j : Int) < 0 ∧ iN (j : Int) < Int32.ofNat (STRN.getD k 0) ∧ narrow .char (.int (strC k j)) = .int (strC k j) ∧ strC k j = (STRB.getD k []).getD j 0) := by decide +kernel
theorem str_len : ∀ k, k < 9 → (STRN.getD k 0 < 1000 ∧ Int32.ofNat (STRN.getD k 0) = iN ((STRN.getD k 0 : Nat) : Int)) := by decide +kernel
theorem v_lat {l : Launch} {E : EnvT} {d : Nat} {K : AV → Mem → Prop} {M : Mem} {k j : Nat} (hd : 3 ≤ d) (hk : k < 9) (hj : j < STRN.getD k 0) (h : K (.int (strC k j), 0) M) : CTv l E d m_Latin1_charAt [.ref (eV E k), .int (iN j)] M K := by
  refine CTv.of (by decide +kernel) ?_
  intro p e s m args below meth c hC hH
  have hC0 := hC
  obtain ⟨hx, hb, hml, hown, hts, hr, hlocks, hKK, hDX, hbs⟩ := hC
  have hent := lv_entry [.ref (eV E k), .int (iN j)] (n := m_Latin1_charAt.2.2.1) (Nat.le_of_ble_eq_true rfl)
  generalize (lg_sl [.ref (eV E k), .int (iN j)] ++ List.replicate (m_Latin1_charAt.2.2.1 - (lg_sl [.ref (eV E k), .int (iN j)]).length) Slot.unset).toArray = la at hent
  have l0 : la[0]? = some (.val (.ref (eV E k))) := hent.2.2 (0, .ref (eV E k)) (by simp [lv_args])
  have l1 : la[1]? = some (.val (.int (iN j))) := hent.2.2 (1, .int (iN j)) (by simp [lv_args, Value.category])
  obtain ⟨o1, o2, o3, o4⟩ := str_ok k hk j hj
  have n1 := (str_len k hk).1
  have hO := (hKK.2.1.1 k hk).2.2.2
  refine lv_iload_n hx hb (k := 1) (i := 1) (by decide +kernel) rfl l1 ?_
  refine lv_aload_n hx hb (k := 0) (i := 0) (by decide +kernel) rfl l0 ?_
  refine va_tlen hx hb hO va_S.rf (v := Int32.ofNat (STRN.getD k 0)) rfl (by decide +kernel) ?_
  refine callSv (vs := [.int (iN j), .int (Int32.ofNat (STRN.getD k 0))]) (rest := []) (dc := d - 1) (i := 691) (idx := 9) (cal := m_Str_checkIndex) (K := fun _ M' => K (.int (strC k j), 0) M') ⟨hx, hb, hml, hown, hts⟩ hKK hDX hbs (CTv.ofCT (as := [(.int (iN j), 0), (.int (Int32.ofNat (STRN.getD k 0)), 0)]) (fun a ha => by simp only [List.mem_cons, List.not_mem_nil, or_false] at ha; rcases ha with rfl | rfl <;> trivial) (c_sIndex (by omega) o1 o2 h)) (by decide +kernel) rfl (by decide +kernel) ⟨by show d - 1 + 1 ≤ d; omega, by show 64 * (d - 1 + 1) ≤ 64 * d; omega⟩ rfl hH va_S.rf hent.1 (by decide) (by decide +kernel) ⟨Nat.zero_le _, Nat.zero_le _⟩ (fun r M' hk2 H' locs' w hq hH' hS' => ?_)
  have hq : Outcome.returned w = .returned none := hq
  cases hq
  refine lv_aload_n hx hb (k := 0) (i := 0) (by decide +kernel) rfl l0 ?_
  refine lv_iload_n hx hb (k := 1) (i := 1) (by decide +kernel) rfl l1 ?_
  refine va_tb hx hb hO hS' (i := iN j) (iN_in (by omega) (by omega) (by omega)) (v := .int ((STRB.getD k []).getD j 0)) (by rw [iN_clN (by omega)]) (by decide +kernel) ?_
  refine lv_sipush hx hb (n := 255) (v := 255) (by decide +kernel) (by decide +kernel) ?_
  refine lv_iand hx hb (by decide +kernel) ?_
  refine lv_i2c hx hb (v := strC k j) (by decide +kernel) rfl ?_
  exact ret_int (ty := .char) hC0 rfl rfl o3 hH' hS' (by decide +kernel) hk2
theorem c_coder {l : Launch} {E : EnvT} {d : Nat} {K : AV → Mem → Prop} {M : Mem} {k : Nat} (hk : k < 9) (h : K (.int 0, 0) M) : CT l E d m_Str_coder [(.ref k, 999)] M K := by
  refine CT.ofF (by decide +kernel) (Nat.le_of_ble_eq_true rfl) ?_
  intro p e s m args below meth c H locs la hC hH hS hT1 hT2 hl
  have hC0 := hC
  obtain ⟨hx, hb, hml, hown, hts, hr, hlocks, hKK, hDX, hbs⟩ := hC
  have l0 : la[0]? = some (.val (.ref (eK E k))) := cvl_lget (v := (.ref k, 999)) hl rfl
  have hO := hKK.2.1.1 k hk
  refine va_gets hx hb (own := "java/lang/String") (ref := "java/lang/String") (index := 38) hKK.2.2.1.1 hS hown (hts _ (in_WS (h := 678) (by decide +kernel) rfl)) (fun _ q => q) (by decide +kernel) ?_
  refine lv_if_eq hx hb (x := 1) (off := 10) (tgt := 13) (by decide +kernel) (by decide) (fun q => absurd q (by decide)) (fun _ => ?_)
  refine lv_aload_n hx hb (k := 0) (i := 0) (by decide +kernel) rfl l0 ?_
  refine vk_getf hx hb (own := "java/lang/String") (ref := "java/lang/String") (index := 15) hO.2.1 hS hown (hts _ (in_WS (h := 2192) (by decide +kernel) rfl)) (fun _ q => q) (by decide +kernel) ?_
  refine lv_goto hx hb (off := 4) (tgt := 14) (by decide +kernel) (by decide) ?_
  exact ret_int (ty := .byte) hC0 rfl rfl (by decide +kernel) hH hS (by decide +kernel) h
theorem c_isLatin1 {l : Launch} {E : EnvT} {d : Nat} {K : AV → Mem → Prop} {M : Mem} {k : Nat} (hk : k < 9) (h : K (.int 1, 0) M) : CT l E d m_Str_isLatin1 [(.ref k, 999)] M K := by
  refine CT.ofF (by decide +kernel) (Nat.le_of_ble_eq_true rfl) ?_
  intro p e s m args below meth c H locs la hC hH hS hT1 hT2 hl
  have hC0 := hC
  obtain ⟨hx, hb, hml, hown, hts, hr, hlocks, hKK, hDX, hbs⟩ := hC
  have l0 : la[0]? = some (.val (.ref (eK E k))) := cvl_lget (v := (.ref k, 999)) hl rfl
  have hO := hKK.2.1.1 k hk
  refine va_gets hx hb (own := "java/lang/String") (ref := "java/lang/String") (index := 38) hKK.2.2.1.1 hS hown (hts _ (in_WS (h := 678) (by decide +kernel) rfl)) (fun _ q => q) (by decide +kernel) ?_
  refine lv_if_eq hx hb (x := 1) (off := 14) (tgt := 17) (by decide +kernel) (by decide) (fun q => absurd q (by decide)) (fun _ => ?_)
  refine lv_aload_n hx hb (k := 0) (i := 0) (by decide +kernel) rfl l0 ?_
  refine vk_getf hx hb (own := "java/lang/String") (ref := "java/lang/String") (index := 15) hO.2.1 hS hown (hts _ (in_WS (h := 2192) (by decide +kernel) rfl)) (fun _ q => q) (by decide +kernel) ?_
  refine lv_if_ne hx hb (x := 0) (off := 7) (tgt := 17) (by decide +kernel) (by decide) (fun q => absurd rfl q) (fun _ => ?_)
  refine lv_iconst hx hb (n := 1) (v := 1) (by decide +kernel) (by decide +kernel) ?_
  refine lv_goto hx hb (off := 4) (tgt := 18) (by decide +kernel) (by decide) ?_
  exact ret_int (ty := .boolean) hC0 rfl rfl (by decide +kernel) hH hS (by decide +kernel) h
theorem c_strLen {l : Launch} {E : EnvT} {d : Nat} {K : AV → Mem → Prop} {M : Mem} {k : Nat} (hd : 1 ≤ d) (hk : k < 9) (h : K (.int (iN ((STRN.getD k 0 : Nat) : Int)), 0) M) : CT l E d m_Str_length [(.ref k, 999)] M K := by
  refine CT.ofF (by decide +kernel) (Nat.le_of_ble_eq_true rfl) ?_
  intro p e s m args below meth c H locs la hC hH hS hT1 hT2 hl
  have hC0 := hC
  obtain ⟨hx, hb, hml, hown, hts, hr, hlocks, hKK, hDX, hbs⟩ := hC
  have l0 : la[0]? = some (.val (.ref (eK E k))) := cvl_lget (v := (.ref k, 999)) hl rfl
  have hO := hKK.2.1.1 k hk
  refine lv_aload_n hx hb (k := 0) (i := 0) (by decide +kernel) rfl l0 ?_
  refine vk_getf hx hb (own := "java/lang/String") (ref := "java/lang/String") (index := 9) hO.2.2.1 hS hown (hts _ (in_WS (h := 2191) (by decide +kernel) rfl)) (fun _ q => q) (by decide +kernel) ?_
  refine va_tlen hx hb hO.2.2.2 hS (v := iN ((STRN.getD k 0 : Nat) : Int)) (str_len k hk).2 (by decide +kernel) ?_
  refine lv_aload_n hx hb (k := 0) (i := 0) (by decide +kernel) rfl l0 ?_
  have tv : ∀ v ∈ [((.ref k, 999) : AV)], TV v := fun v hv => by
    simp only [List.mem_cons, List.not_mem_nil, or_false] at hv
    subst hv
    exact Or.inl ⟨rfl, hk⟩
  refine callV_ok (dc := d - 1) (cal := m_Str_coder) (as := []) (r0 := k) (dd0 := 999) (rest := [(.int (iN ((STRN.getD k 0 : Nat) : Int)), 0)]) (i := 674) (idx := 335) (K := fun r M' => r = (.int 0, 0) ∧ K (.int (iN ((STRN.getD k 0 : Nat) : Int)), 0) M') ⟨hx, hb, hml, hown, hts⟩ hKK hDX hbs (c_coder hk ⟨rfl, h⟩) (by decide +kernel) (Or.inr ⟨rfl, rfl⟩) (by decide +kernel) ⟨by show d - 1 + 1 ≤ d; omega, by show 64 * (d - 1 + 1) ≤ 64 * d; omega⟩ rfl tv (fun v hv => by
    simp only [List.mem_cons, List.not_mem_nil, or_false] at hv
    subst hv
    trivial) hH hS hl.1 (show 1 ≤ 8 by decide) (by decide +kernel) ⟨Nat.zero_le _, Nat.zero_le _⟩ (fun r M' hk2 H' locs' hH' hS' _ => ?_)
  obtain ⟨rfl, hk3⟩ := hk2
  refine lv_ishr hx hb (x := iN ((STRN.getD k 0 : Nat) : Int)) (y := 0) (by decide +kernel) ?_
  have e : iN ((STRN.getD k 0 : Nat) : Int) >>> ((0 : Int32) &&& 31) = iN ((STRN.getD k 0 : Nat) : Int) := by
    have : ∀ k, k < 9 → iN ((STRN.getD k 0 : Nat) : Int) >>> ((0 : Int32) &&& 31) = iN ((STRN.getD k 0 : Nat) : Int) := by decide +kernel
    exact this k hk
  rw [e]
  exact ret_int (ty := .int) hC0 rfl rfl rfl hH' hS' (by decide +kernel) hk3
theorem c_charAt {l : Launch} {E : EnvT} {d : Nat} {K : AV → Mem → Prop} {M : Mem} {k j : Nat} (hd : 4 ≤ d) (hk : k < 9) (hj : j < STRN.getD k 0) (h : K (.int ((STRB.getD k []).getD j 0), 0) M) : CT l E d m_Str_charAt [(.ref k, 999), (.int (iN j), 0)] M K := by
  refine CT.ofF (by decide +kernel) (Nat.le_of_ble_eq_true rfl) ?_
  intro p e s m args below meth c H locs la hC hH hS hT1 hT2 hl
  have hC0 := hC
  obtain ⟨hx, hb, hml, hown, hts, hr, hlocks, hKK, hDX, hbs⟩ := hC
  have l0 : la[0]? = some (.val (.ref (eK E k))) := cvl_lget (v := (.ref k, 999)) hl rfl
  have l1 : la[1]? = some (.val (.int (iN j))) := cvl_lget (v := (.int (iN j), 0)) hl rfl
  have hO := hKK.2.1.1 k hk
  obtain ⟨o1, o2, o3, o4⟩ := str_ok k hk j hj
  rw [← o4] at h
  have tv : ∀ v ∈ [((.ref k, 999) : AV)], TV v := fun v hv => by
    simp only [List.mem_cons, List.not_mem_nil, or_false] at hv
    subst hv
    exact Or.inl ⟨rfl, hk⟩
  refine lv_aload_n hx hb (k := 0) (i := 0) (by decide +kernel) rfl l0 ?_
  refine callV_ok (dc := d - 1) (cal := m_Str_isLatin1) (as := []) (r0 := k) (dd0 := 999) (rest := []) (i := 684) (idx := 492) (K := fun r M' => r = (.int 1, 0) ∧ K (.int (strC k j), 0) M') ⟨hx, hb, hml, hown, hts⟩ hKK hDX hbs (c_isLatin1 hk ⟨rfl, h⟩) (by decide +kernel) (Or.inr ⟨rfl, rfl⟩) (by decide +kernel) ⟨by show d - 1 + 1 ≤ d; omega, by show 64 * (d - 1 + 1) ≤ 64 * d; omega⟩ rfl tv (fun v hv => by cases hv) hH hS hl.1 (by decide) (by decide +kernel) ⟨Nat.zero_le _, Nat.zero_le _⟩ (fun r M' hk2 H' locs' hH' hS' _ => ?_)
  obtain ⟨rfl, hk3⟩ := hk2
  refine lv_if_eq hx hb (x := 1) (off := 12) (tgt := 16) (by decide +kernel) (by decide) (fun q => absurd q (by decide)) (fun _ => ?_)
  refine lv_aload_n hx hb (k := 0) (i := 0) (by decide +kernel) rfl l0 ?_
  refine vk_getf hx hb (own := "java/lang/String") (ref := "java/lang/String") (index := 9) hO.2.2.1 hS' hown (hts _ (in_WS (h := 2191) (by decide +kernel) rfl)) (fun _ q => q) (by decide +kernel) ?_
  refine lv_iload_n hx hb (k := 1) (i := 1) (by decide +kernel) rfl l1 ?_
  refine callSv (vs := [.ref (eV E k), .int (iN j)]) (rest := []) (dc := d - 1) (i := 688) (idx := 495) (cal := m_Latin1_charAt) (K := fun r M' => r = (.int (strC k j), 0) ∧ K (.int (strC k j), 0) M') ⟨hx, hb, hml, hown, hts⟩ hKK hDX hbs (v_lat (by omega) hk hj ⟨rfl, hk3⟩) (by decide +kernel) rfl (by decide +kernel) ⟨by show d - 1 + 1 ≤ d; omega, by show 64 * (d - 1 + 1) ≤ 64 * d; omega⟩ rfl hH' hS' hl.1 (by decide) (by decide +kernel) ⟨Nat.zero_le _, Nat.zero_le _⟩ (fun r M2 hk4 H2 locs2 w hq hH2 hS2 => ?_)
  obtain ⟨rfl, hk5⟩ := hk4
  obtain ⟨z, hz1, hz⟩ : ∃ z, ((.int (strC k j), 0) : AV) = (.int z, 0) ∧ Outcome.returned w = .returned (some (.int z)) := hq
  cases hz1
  cases hz
  exact ret_int (ty := .char) hC0 rfl rfl o3 hH2 hS2 (by decide +kernel) hk5
