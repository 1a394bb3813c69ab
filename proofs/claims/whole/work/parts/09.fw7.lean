def csum (st : List AV) : Nat := (st.map (fun v => v.1.category)).sum
theorem csum_cv (E : EnvT) (st : List AV) : ((st.map (cv E)).map fun v => v.category).sum = csum st := by
  unfold csum
  rw [List.map_map]
  congr 1
  apply List.map_congr_left
  intro v _
  exact cv_cat E v
def pushR (cal : MI) (r : AV) (st : List AV) : List AV := match rk cal.2.2.2.1 with
  | 0 => st
  | 1 => (.int (toI r), 0) :: st
  | 2 => (.long (toL r), 0) :: st
  | _ => (.ref (toR r), 999) :: st
theorem pushR_cv {E : EnvT} {cal : MI} {r : AV} {v : Option Value} (st : List AV) (h : Qr cal E r (.returned v)) : v.toList ++ st.map (cv E) = (pushR cal r st).map (cv E) := by
  unfold Qr at h
  unfold pushR
  split at h
  · rename_i e
    rw [e]
    cases h
    rfl
  · rename_i e
    rw [e]
    obtain ⟨x, rfl, h2⟩ := h
    cases h2
    rfl
  · rename_i e
    rw [e]
    obtain ⟨x, rfl, h2⟩ := h
    cases h2
    rfl
  · rename_i n h0 h1 h2
    obtain ⟨x, rfl, -, h3⟩ := h
    cases h3
    split
    · rename_i e; exact absurd e h0
    · rename_i e; exact absurd e h1
    · rename_i e; exact absurd e h2
    · rfl
theorem pushR_TV {E : EnvT} {cal : MI} {r : AV} {v : Option Value} {st : List AV} (h : Qr cal E r (.returned v)) (hT : ∀ v ∈ st, TV v) : ∀ v ∈ pushR cal r st, TV v := by
  unfold Qr at h
  unfold pushR
  split at h
  · rename_i e
    rw [e]
    exact hT
  · rename_i e
    rw [e]
    exact cons_TV hT trivial
  · rename_i e
    rw [e]
    exact cons_TV hT trivial
  · rename_i n h0 h1 h2
    obtain ⟨x, rfl, hx, h3⟩ := h
    split
    · exact hT
    · exact cons_TV hT trivial
    · exact cons_TV hT trivial
    · exact cons_TV hT (Or.inl ⟨rfl, hx⟩)
theorem call_go {l : Launch} {E : EnvT} {cal : MI} {K : AV → Mem → Prop} {rest : List AV} {st0 : List Value} {a : Array Value} {pc : Nat} {Q : State → Prop} {p : Program} {e : Env} {R : Room} {s : State} {m : MethodId} {args : Array Value} {below : List Frame} {meth : Method} {c : Code} {H : Heap} {locs : List Loc} {la : Array Slot} {cells slots : Nat}
    (hr : va_Run p l e R s m args below meth c H locs cells slots 0 0 (F0 m pc la st0) (rest.map (cv E)) (QQ E cal K a) (Ab E)) (hS : va_S (Ab E) s.heap H locs) (hT : ∀ v ∈ rest, TV v)
    (kk : ∀ (r : AV) (M' : Mem), K r M' → ∀ (H' : Heap) (locs' : List Loc), HX E M' H' → va_S (Ab E) s.heap H' locs' → (∀ v ∈ pushR cal r rest, TV v) → W p l e R s m args below meth c H' locs' cells slots Q (F0 m (pc + 3) la ((pushR cal r rest).map (cv E)))) :
    W p l e R s m args below meth c H locs cells slots Q (F0 m pc la st0) := by
  intro T hT0 X
  obtain ⟨v, st₀, t, T', L, h0, X', hL, e1, e2, ⟨⟨r, M', hK, hQ, hH⟩, hz, hk⟩, stp⟩ := hr T hT0 X
  rw [h0] at hz hk
  have hS' : va_S (Ab E) s.heap T'.heap (locs ++ L) := ⟨Nat.le_trans hS.1 (by rw [e1]; exact hz), fun q h1 h2 => by rw [e1, hk q (Nat.lt_of_lt_of_le h1 hS.1) h2]; exact hS.2.1 q h1 h2, fun q hq => by
      rcases List.mem_append.mp hq with h | h
      · exact hS.2.2 q h
      · exact hL q h⟩
  obtain ⟨t2, a1, b1⟩ := kk r M' hK T'.heap (locs ++ L) (by rw [e1]; exact hH) hS' (pushR_TV hQ hT) T' rfl X'
  rw [← pushR_cv rest hQ] at a1
  exact ⟨t2, stp t2 a1, b1⟩
/-- what a program asks of a method that is called -/
def okM (cal : MI) : Bool :=
  decide (lw_tbl[cal.2.2.2.2.2.2.2.getD 0 0]? = some (.code cal.1 cal.2.1 cal.2.2.1 cal.2.2.2.1)) && (decide (lw_tbl[cal.2.2.2.2.2.2.2.getD 1 0]? = some (.initialized cal.1.cls)) && (decide (cal.2.2.1 ≤ 40) &&
  (decide (cal.1.cls ≠ "java/lang/invoke/MethodHandle" ∧ cal.1.cls ≠ "java/lang/invoke/VarHandle" ∧ (parseMethodDescriptor cal.1.desc).map (fun d => d.parameters.length) = some cal.2.2.2.2.1) &&
  (if cal.2.2.2.2.2.1 = 0 then decide (lw_tbl[cal.2.2.2.2.2.2.2.getD 2 0]? = some (.static cal.1))
   else decide (lw_tbl[cal.2.2.2.2.2.2.2.getD 2 0]? = some (.instanceMethod cal.1)) && (decide (lw_tbl[cal.2.2.2.2.2.2.2.getD 3 0]? = some (.selects cal.1.cls cal.1 cal.1)) &&
     (if cal.2.2.2.2.2.1 = 1 then decide ((vCl[cal.2.2.2.2.2.2.1]?).map (fun q => q.1) = some cal.1.cls) else decide (cal.1.cls = "java/lang/String")))))))
theorem GoodIn_WS {mi cal : MI} {extra : List Cond} (h : ∀ w ∈ extra, ∃ i : Nat, lw_tbl[i]? = some w) (hg : ∀ w ∈ extra, goodWord w = true) {i : Nat} (hc : lw_tbl[i]? = some (.code cal.1 cal.2.1 cal.2.2.1 cal.2.2.2.1)) : GoodIn (WS mi) (extra ++ WS cal) := by
  intro w hw
  rcases List.mem_append.mp hw with hw | hw
  · obtain ⟨j, hj⟩ := h w hw
    exact ⟨in_WS hj (hg w hw), good_of_word (hg w hw)⟩
  · rcases List.mem_cons.mp hw with rfl | hw
    · exact ⟨in_WS hc rfl, Or.inl rfl⟩
    · exact ⟨List.mem_cons_of_mem _ hw, good_of_word (List.mem_filter.mp hw).2⟩
theorem CT.blind {E : EnvT} {as : List AV} {M : Mem} : FrameBlind (va_Pc (as.map (cv E)) (fun U => HX E M U.heap ∧ KK E U ∧ DX E ∧ eB E ≤ U.heap.size)) := by
  intro a U g mk h
  obtain ⟨h1, h2, h3, h4, h5⟩ := h
  exact ⟨h1, h2, h3.call g mk a, h4, h5⟩
theorem CT.pre {E : EnvT} {as : List AV} {M : Mem} {s : State} {H : Heap} {locs : List Loc} (hKK : KK E s) (hDX : DX E) (hbs : eB E ≤ s.heap.size) (hH : HX E M H) (hS : va_S (Ab E) s.heap H locs) : ∀ U : State, U.heap = H → s.WarmedH U.vm → va_Pc (as.map (cv E)) (fun U => HX E M U.heap ∧ KK E U ∧ DX E ∧ eB E ≤ U.heap.size) (as.map (cv E)).toArray U := by
  intro U hU hW
  exact ⟨rfl, by rw [hU]; exact hH, hKK.move hS hU hW, hDX, by rw [hU]; exact Nat.le_trans hbs hS.1⟩
theorem callS_ok {l : Launch} {E : EnvT} {dc : Nat} {cal : MI} {K : AV → Mem → Prop} {as rest : List AV} {M : Mem} {pc idx i : Nat} {Q : State → Prop} {p : Program} {e : Env} {R : Room} {s : State} {m : MethodId} {args : Array Value} {below : List Frame} {meth : Method} {c : Code} {H : Heap} {locs : List Loc} {la : Array Slot} {cells slots nL : Nat} {cc : ByteArray} {own : String} {mi : MI}
    (S : CallFix p m c cc nL s args (WS mi) own) (hKK : KK E s) (hDX : DX E) (hbs : eB E ≤ s.heap.size) (hM : CT l E dc cal as M K) (hok : okM cal = true) (hkd : cal.2.2.2.2.2.1 = 0) (hlk : lw_tbl[i]? = some (.methodLink own idx cal.1)) (hR : dc + 1 ≤ R.frames ∧ 64 * (dc + 1) ≤ R.locals) (hn : as.length = cal.2.2.2.2.1) (hT1 : ∀ v ∈ as, TV v) (hT : ∀ v ∈ rest, TV v)
    (hH : HX E M H) (hS : va_S (Ab E) s.heap H locs) (hsz : la.size = nL) (hcs : csum rest ≤ 8) (hdg : decode cc pc = .ok (.invokestatic idx, 3)) (hf : cells ≤ R.cells ∧ slots ≤ R.slots)
    (kk : ∀ (r : AV) (M' : Mem), K r M' → ∀ (H' : Heap) (locs' : List Loc), HX E M' H' → va_S (Ab E) s.heap H' locs' → (∀ v ∈ pushR cal r rest, TV v) → W p l e R s m args below meth c H' locs' cells slots Q (F0 m (pc + 3) la ((pushR cal r rest).map (cv E)))) :
    W p l e R s m args below meth c H locs cells slots Q (F0 m pc la ((as.reverse ++ rest).map (cv E))) := by
  simp only [okM, Bool.and_eq_true, decide_eq_true_eq, hkd, if_true] at hok
  obtain ⟨h1, h2, h3, h4, h5⟩ := hok
  refine call_go (va_runS (As := as.map (cv E)) S (hM hT1) (va_cwS (mc := 0) (ms := 0) (ws' := lw_tbl.filter goodWord) cal.2.2.2.2.1 S.2.2.2.2 (GoodIn_WS (extra := [.methodLink own idx cal.1, .static cal.1, .initialized cal.1.cls]) ?_ ?_ h1) rfl rfl rfl h4 ⟨?_, ?_⟩) ⟨CT.blind, CT.pre hKK hDX hbs hH hS⟩ rfl ?_ hsz ?_ (lv_room ?_) hdg hf) hS hT kk
  · intro w hw
    simp only [List.mem_cons, List.not_mem_nil, or_false] at hw
    rcases hw with rfl | rfl | rfl
    · exact ⟨_, hlk⟩
    · exact ⟨_, h5⟩
    · exact ⟨_, h2⟩
  · intro w hw
    simp only [List.mem_cons, List.not_mem_nil, or_false] at hw
    rcases hw with rfl | rfl | rfl <;> rfl
  · exact hR.1
  · show 8 + (cal.2.2.1 + 11) + 64 * dc ≤ R.locals
    omega
  · rw [List.length_map]; exact hn
  · simp
  · rw [csum_cv]; exact hcs
theorem callV_ok {l : Launch} {E : EnvT} {dc : Nat} {cal : MI} {K : AV → Mem → Prop} {as rest : List AV} {M : Mem} {pc idx i r0 dd0 : Nat} {Q : State → Prop} {p : Program} {e : Env} {R : Room} {s : State} {m : MethodId} {args : Array Value} {below : List Frame} {meth : Method} {c : Code} {H : Heap} {locs : List Loc} {la : Array Slot} {cells slots nL : Nat} {cc : ByteArray} {own : String} {mi : MI}
    (S : CallFix p m c cc nL s args (WS mi) own) (hKK : KK E s) (hDX : DX E) (hbs : eB E ≤ s.heap.size) (hM : CT l E dc cal ((.ref r0, dd0) :: as) M K) (hok : okM cal = true) (hkd : cal.2.2.2.2.2.1 = 1 ∧ (dsc dd0).2.1 = cal.2.2.2.2.2.2.1 ∨ cal.2.2.2.2.2.1 = 2 ∧ dd0 = 999) (hlk : lw_tbl[i]? = some (.methodLink own idx cal.1)) (hR : dc + 1 ≤ R.frames ∧ 64 * (dc + 1) ≤ R.locals) (hn : as.length = cal.2.2.2.2.1) (hT1 : ∀ v ∈ (.ref r0, dd0) :: as, TV v) (hT : ∀ v ∈ rest, TV v)
    (hH : HX E M H) (hS : va_S (Ab E) s.heap H locs) (hsz : la.size = nL) (hcs : csum rest ≤ 8) (hdg : decode cc pc = .ok (.invokevirtual idx, 3)) (hf : cells ≤ R.cells ∧ slots ≤ R.slots)
    (kk : ∀ (r : AV) (M' : Mem), K r M' → ∀ (H' : Heap) (locs' : List Loc), HX E M' H' → va_S (Ab E) s.heap H' locs' → (∀ v ∈ pushR cal r rest, TV v) → W p l e R s m args below meth c H' locs' cells slots Q (F0 m (pc + 3) la ((pushR cal r rest).map (cv E)))) :
    W p l e R s m args below meth c H locs cells slots Q (F0 m pc la ((as.reverse ++ (.ref r0, dd0) :: rest).map (cv E))) := by
  have hk0 : ¬ cal.2.2.2.2.2.1 = 0 := by omega
  simp only [okM, Bool.and_eq_true, decide_eq_true_eq, hk0, if_false] at hok
  obtain ⟨h1, h2, h3, h4, h5, h6, h7⟩ := hok
  have hrecv : ∃ b, cv E (.ref r0, dd0) = .ref b ∧ ∃ cellB : Cell, H[b]? = some cellB ∧ cellB.vm.isStatics = false ∧ s.vm.findClass cal.1.cls = some cellB.cls := by
    rcases hkd with ⟨ka, kb⟩ | ⟨ka, kb⟩
    · rw [if_pos ka] at h7
      have h8 := of_decide_eq_true h7
      cases hcq : vCl[cal.2.2.2.2.2.2.1]? with
      | none => rw [hcq] at h8; cases h8
      | some q =>
        rw [hcq] at h8
        have hlt : cal.2.2.2.2.2.2.1 < 12 := (List.getElem?_eq_some_iff.mp hcq).1
        have hdd : dd0 ≠ 999 := tag_ne kb (by omega)
        obtain ⟨q0, hq0⟩ := TV_CL (hT1 _ List.mem_cons_self) hdd
        have he := WL_cell (E := E) (M := M) hq0
        rw [cell_obj E M (by omega), kb] at he
        refine ⟨_, cv_al E hdd, ?_⟩
        have hv := va_recv hKK.1 hH hcq he
        rw [← Option.some.inj h8]
        exact hv
    · subst kb
      rw [if_neg (by omega)] at h7
      have hc := of_decide_eq_true h7
      refine ⟨eK E r0, rfl, ?_⟩
      rw [hc]
      have hx : r0 < 9 := by
        rcases hT1 _ List.mem_cons_self with h | h
        · exact h.2
        · exact absurd rfl h.1
      exact vk_recv hKK.2.1 hx hS
  obtain ⟨b, hb, hcell⟩ := hrecv
  have hpre := CT.pre (as := (.ref r0, dd0) :: as) hKK hDX hbs hH hS
  have hMM := hM hT1
  simp only [List.map_cons, hb] at hpre hMM
  simp only [List.map_append, List.map_cons, hb, List.map_reverse]
  refine call_go (va_runV (C := cal.1.cls) (b := b) (As := as.map (cv E)) S hMM (cwV (mc := 0) (ms := 0) (ws' := lw_tbl.filter goodWord) cal.2.2.2.2.1 S.2.2.2.2 (GoodIn_WS (extra := [.methodLink own idx cal.1, .instanceMethod cal.1, .selects cal.1.cls cal.1 cal.1, .initialized cal.1.cls]) ?_ ?_ h1) rfl rfl rfl ⟨rfl, h4⟩ ⟨?_, ?_⟩) ⟨?_, hcell, hpre⟩ rfl ?_ hsz rfl (lv_room ?_) hdg hf) hS hT kk
  · intro w hw
    simp only [List.mem_cons, List.not_mem_nil, or_false] at hw
    rcases hw with rfl | rfl | rfl | rfl
    · exact ⟨_, hlk⟩
    · exact ⟨_, h5⟩
    · exact ⟨_, h6⟩
    · exact ⟨_, h2⟩
  · intro w hw
    simp only [List.mem_cons, List.not_mem_nil, or_false] at hw
    rcases hw with rfl | rfl | rfl | rfl <;> rfl
  · exact hR.1
  · show 8 + (cal.2.2.1 + 11) + 64 * dc ≤ R.locals
    omega
  · have := CT.blind (E := E) (as := (.ref r0, dd0) :: as) (M := M)
    simp only [List.map_cons, hb] at this
    exact this
  · rw [List.length_map]; exact hn
  · rw [csum_cv]; exact hcs

