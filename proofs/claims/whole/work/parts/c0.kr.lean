def tysK (k : Nat → ClassId) : List (ClassId × FieldType) := [(k 0, .int), (k 1, .long), (k 2, .byte), (k 3, .object "FalseNotes$Tray"), (k 4, .object "FalseNotes$Choir"), (k 5, .object "FalseNotes$Years")]
def NLk : List (String × Nat × MethodName) := [("FalseNotes", 21, ⟨"FalseNotes$ChoirReader", "<init>", "()V"⟩), ("FalseNotes$ChoirReader", 11, ⟨"FalseNotes$Tokens", "<init>", "()V"⟩), ("FalseNotes", 28, ⟨"FalseNotes$YearsReader", "<init>", "()V"⟩), ("FalseNotes$YearsReader", 11, ⟨"FalseNotes$Tokens", "<init>", "()V"⟩), ("FalseNotes$Marks", 25, ⟨"FalseNotes$Choir", "<init>", "()V"⟩), ("FalseNotes$Choir", 36, ⟨"FalseNotes$Waiting", "<init>", "()V"⟩), ("FalseNotes$Marks", 26, ⟨"FalseNotes$Years", "<init>", "()V"⟩), ("FalseNotes", 42, ⟨"FalseNotes$Ties", "<init>", "()V"⟩), ("FalseNotes", 49, ⟨"FalseNotes$Life", "<init>", "()V"⟩), ("FalseNotes", 59, ⟨"FalseNotes$Choir", "<init>", "()V"⟩), ("FalseNotes", 72, ⟨"FalseNotes$Years", "<init>", "()V"⟩), ("FalseNotes", 100, ⟨"FalseNotes$Tray", "<init>", "()V"⟩)]
/-- what a constructor needs of the tables beyond the good words -/
def KC (D : va_G) (k : Nat → ClassId) (U : State) : Prop := va_K D vCl (tysK k) U ∧ (va_AO "FalseNotes$Tray" U ∧ va_AO "FalseNotes$Choir" U ∧ va_AO "FalseNotes$Years" U) ∧ ∀ q ∈ NLk, va_Nw (.methodLinkNest q.1 q.2.1 q.2.2 "FalseNotes") U
theorem KC.warm {D : va_G} {k : Nat → ClassId} {s U : State} (h : KC D k s) (hW : s.WarmedH U.vm) : KC D k U :=
  ⟨va_K.moved hW.alike h.1, ⟨h.2.1.1.moved hW.alike, h.2.1.2.1.moved hW.alike, h.2.1.2.2.moved hW.alike⟩, fun q hq => (h.2.2 q hq).warmM hW⟩
theorem KC.call {D : va_G} {k : Nat → ClassId} {U : State} (g : JFrame) (mk : MethodId) (a : Array Value) (h : KC D k U) : KC D k (U.calling g mk a) :=
  ⟨va_K.moved (u := U) (U := U.calling g mk a) (Vm.Alike.refl U.vm) h.1, ⟨h.2.1.1.moved (U := U.calling g mk a) (Vm.Alike.refl U.vm), h.2.1.2.1.moved (U := U.calling g mk a) (Vm.Alike.refl U.vm), h.2.1.2.2.moved (U := U.calling g mk a) (Vm.Alike.refl U.vm)⟩, fun q hq => (h.2.2 q hq).same rfl rfl⟩
/-- a constructor: from a blank object at h0 to the world w a, with a 0 = h0 -/
def CK (l : Launch) (D : va_G) (k : Nat → ClassId) (mi : MI) (f mc ms ci : Nat) (fs : List Value) {α : Type} (hd : α → Nat) (w : α → va_W) : Prop :=
  ∀ h0 sz : Nat, Met l mi.1 (WS mi) ({ frames := f, cells := mc, slots := ms, locals := 64 * f }) (va_Pc [.ref h0] (fun U => U.heap.size = sz ∧ va_P D vCl [(h0, .inr (ci, fs))] U.heap ∧ KC D k U)) (va_Qv (fun a : α => hd a = h0) (fun a t => va_P D vCl (w a) t.heap ∧ va_D (va_A [(h0, .inr (ci, fs))] sz) (w a)) (va_A [(h0, .inr (ci, fs))] sz)) mc ms (va_A [(h0, .inr (ci, fs))] sz)
theorem kj {A0 : Nat → Prop} {D : va_G} {cl : List vw_C} {ws w1 : va_W} {q : Nat} {e : va_E} {H H1 : Heap} (hP : va_P D cl (ws ++ [(q, e)]) H) (hD : va_D A0 (ws ++ [(q, e)])) (hk : ∀ x : Nat, x < H.size → ¬ va_A [(q, e)] H.size x → H1[x]? = H[x]?) (hF : ∀ x, va_A [(q, e)] H.size x → A0 x) (hP1 : va_P D cl w1 H1) (hD1 : va_D (va_A [(q, e)] H.size) w1) : va_P D cl (ws ++ w1) H1 ∧ va_D A0 (ws ++ w1) := by
  have up : ∀ (i : Nat) (x : Nat × va_E), ws[i]? = some x → (ws ++ [(q, e)])[i]? = some x := fun i x hx => by
    rw [List.getElem?_append_left (List.getElem?_eq_some_iff.mp hx).1]; exact hx
  have lst : (ws ++ [(q, e)])[ws.length]? = some (q, e) := by simp
  have apart : ∀ (i : Nat) (x : Nat × va_E), ws[i]? = some x → x.1 < H.size ∧ ¬ va_A [(q, e)] H.size x.1 := by
    intro i x hx
    have hl := (hP i x (up i x hx)).lt
    refine ⟨hl, fun h => ?_⟩
    rcases h with ⟨k2, e2, h⟩ | h
    · have hz : k2 < 1 := (List.getElem?_eq_some_iff.mp h).1
      rw [show k2 = 0 by omega] at h
      have h2 : (q, e) = (x.1, e2) := Option.some.inj h
      have hij := hD.1 i ws.length x (q, e) (up i x hx) lst (congrArg Prod.fst h2).symm
      have := (List.getElem?_eq_some_iff.mp hx).1
      omega
    · omega
  refine ⟨va_P.app (fun i x hx => (hP i x (up i x hx)).kept (hk x.1 (apart i x hx).1 (apart i x hx).2)) hP1, va_D.app ⟨fun i j x y hx hy hxy => hD.1 i j x y (up i x hx) (up j y hy) hxy, fun i x hx => hD.2 i x (up i x hx)⟩ (hD1.weaken (fun _ x _ h => hF x.1 h)) (fun i j x y hx hy hxy => (apart i x hx).2 (by rw [hxy]; exact hD1.2 j y hy))⟩
theorem kr_new {p : Program} {l : Launch} {e : Env} {R : Room} {s : State} {m : MethodId} {args : Array Value} {below : List Frame} {meth : Method} {c : Code} {H : Heap} {locs : List Loc} {cells slots : Nat} {Q : State → Prop} {cc : ByteArray} {pc nL : Nat} {ls : Array Slot} {rest : List Value} {D : va_G} {A : Nat → Prop} {ws : va_W} {H0 : Heap} {k : Nat → ClassId} {own : String} {mi cal : MI} {f mc ms ci idx1 idx2 N a1 a2 a3 a4 a5 : Nat} {fs : List Value} {α : Type} {hd : α → Nat} {w : α → va_W} {C : String} {T : u_T}
    (S : CallFix p m c cc nL s args (WS mi) own) (hK : KC D k s) (hM : CK l D k cal f mc ms ci fs hd w) (hc : vCl[ci]? = some (C, T, N)) (hcal : cal.1 = ⟨C, "<init>", "()V"⟩ ∧ cal.2.2.2.1 = none ∧ cal.2.2.1 ≤ 2 ∧ (C ≠ "java/lang/invoke/MethodHandle" ∧ C ≠ "java/lang/invoke/VarHandle")) (hfs : ∀ j, j < N → defaultValue (clTy ci j) = vp_V fs j)
    (h1 : lw_tbl[a1]? = some (.classLink own idx1 C)) (h2 : lw_tbl[a2]? = some (.instantiable C N)) (h3 : lw_tbl[a3]? = some (.initialized C)) (h4 : lw_tbl[a4]? = some (.code cal.1 cal.2.1 cal.2.2.1 cal.2.2.2.1)) (h5 : lw_tbl[a5]? = some (.instanceMethod cal.1)) (hlk : (∃ i : Nat, lw_tbl[i]? = some (.methodLink own idx2 cal.1)) ∨ (own, idx2, cal.1) ∈ NLk)
    (hP : va_P D vCl ws H) (hD : va_D A ws) (hS : va_S A H0 H locs) (hA : ∀ q, H0.size ≤ q → A q) (hsz : ls.size = nL) (hR : f + 1 ≤ R.frames ∧ 64 * (f + 1) ≤ R.locals) (hf : cells + 1 + mc ≤ R.cells ∧ slots + N + ms ≤ R.slots) (hcs : (rest.map fun v => v.category).sum ≤ 7)
    (hd1 : decode cc pc = .ok (.new idx1, 3)) (hd2 : decode cc (pc + 3) = .ok (.dup, 1)) (hd3 : decode cc (pc + 3 + 1) = .ok (.invokespecial idx2, 3))
    (kk : ∀ (a : α) (H1 : Heap) (locs1 : List Loc), va_P D vCl (ws ++ w a) H1 → va_D A (ws ++ w a) → va_S A H0 H1 locs1 → W p l e R s m args below meth c H1 locs1 (cells + 1 + mc) (slots + N + ms) Q (F0 m (pc + 7) ls (.ref (hd a) :: rest))) : W p l e R s m args below meth c H locs cells slots Q (F0 m pc ls rest) := by
  obtain ⟨hx, hb, hml, hown, hts⟩ := id S
  obtain ⟨c1, c2, c3, c4⟩ := hcal
  have hci : ci < 12 := (List.getElem?_eq_some_iff.mp hc).1
  refine va_new (ci := ci) (fs := fs) (C := C) (T := T) (N := N) hx hb hts (fun x hx2 => List.mem_cons_of_mem _ (cl_words (C, T, N) (List.mem_of_getElem? hc) x hx2)) (clTy ci) (cl_ty ci hci (C, T, N) hc) hown (hts _ (in_WS h1 rfl)) (hts _ (in_WS h2 rfl)) (hts _ (in_WS h3 rfl)) hK.1 hP hD hS hA hc hfs (by omega) (by omega) hd1 (fun q H1 hP1 hD1 hS1 => ?_)
  refine lv_dup hx hb hd2 rfl ?_
  have hG : GoodIn (WS mi) (WS cal) := GoodIn_WS (extra := []) (fun _ h => by cases h) (fun _ h => by cases h) h4
  have hw : WS cal = Cond.code cal.1 cal.2.1 cal.2.2.1 none :: lw_tbl.filter goodWord := by unfold WS; rw [c2]
  have hi : (Cond.initialized cal.1.cls).before args s = true := by rw [c1]; exact hts _ (in_WS h3 rfl)
  have hnm : cal.1.name = "<init>" := by rw [c1]
  have hds : cal.1.cls ≠ "java/lang/invoke/MethodHandle" ∧ cal.1.cls ≠ "java/lang/invoke/VarHandle" ∧ (parseMethodDescriptor cal.1.desc).map (fun d => d.parameters.length) = some 0 := by
    rw [c1]
    exact ⟨c4.1, c4.2, show (parseMethodDescriptor "()V").map (fun d => d.parameters.length) = some 0 by decide +kernel⟩
  have hpre : PreS s H1 (va_Pc [.ref q] (fun U => U.heap.size = H1.size ∧ va_P D vCl [(q, .inr (ci, fs))] U.heap ∧ KC D k U)) [.ref q] := by
    refine ⟨fun a U g mk h => ?_, fun U hU hW => ⟨rfl, by rw [hU], ?_, hK.warm hW⟩⟩
    · obtain ⟨q0, q1, qP, qK⟩ := h
      exact ⟨q0, q1, qP, qK.call g mk a⟩
    · rw [hU]
      intro i x hx2
      have hz : i < 1 := (List.getElem?_eq_some_iff.mp hx2).1
      rw [show i = 0 by omega] at hx2
      have : (q, Sum.inr (ci, fs)) = x := Option.some.inj hx2
      exact hP1 ws.length x (by rw [← this]; simp)
  have hroom : ((Value.ref q :: rest).map fun v => v.category).sum ≤ 8 := by
    have : ((Value.ref q :: rest).map fun v => v.category).sum = 1 + (rest.map fun v => v.category).sum := rfl
    omega
  have hrl : 8 + (cal.2.2.1 + 11) + 64 * f ≤ R.locals := by omega
  have run : va_Run p l e R s m args below meth c H1 locs (cells + 1) (slots + N) mc ms (F0 m (pc + 3 + 1) ls (.ref q :: .ref q :: rest)) (.ref q :: rest) (va_Qv (fun a : α => hd a = q) (fun a t => va_P D vCl (w a) t.heap ∧ va_D (va_A [(q, .inr (ci, fs))] H1.size) (w a)) (va_A [(q, .inr (ci, fs))] H1.size) ([.ref q] : List Value).toArray) (va_A [(q, .inr (ci, fs))] H1.size) := by
    rcases hlk with ⟨i, hlk⟩ | hlk
    · exact va_runI (As := []) (rest := .ref q :: rest) S (hM q H1.size) (cwI 0 hts hG hw rfl rfl hi (hts _ (in_WS hlk rfl)) (hts _ (in_WS h5 rfl)) hnm hds ⟨hR.1, hrl⟩) hpre rfl rfl hsz rfl (lv_room hroom) hd3 hf
    · exact va_runIN (As := []) (rest := .ref q :: rest) S (hM q H1.size) ⟨va_cnB 0 hts hG hw rfl rfl (hK.2.2 _ hlk) hi hds ⟨hR.1, hrl⟩, hnm, hts _ (in_WS h5 rfl)⟩ hpre rfl rfl hsz rfl (lv_room hroom) hd3 hf
  have hFc : ∀ x, va_A [(q, .inr (ci, fs))] H1.size x → A x := by
    intro x h
    rcases h with ⟨k2, e2, h⟩ | h
    · have hz : k2 < 1 := (List.getElem?_eq_some_iff.mp h).1
      rw [show k2 = 0 by omega] at h
      have h2 : (q, Sum.inr (ci, fs)) = (x, e2) := Option.some.inj h
      have := hD1.2 ws.length (q, .inr (ci, fs)) (by simp)
      rw [← show q = x from congrArg Prod.fst h2]
      exact this
    · exact hA x (Nat.le_trans hS1.1 h)
  refine va_callv run hS1 (fun x _ h => hFc x h) hFc (fun a t H2 locs2 ht hvm ha hB hz2 hk2 hS2 => ?_)
  obtain ⟨b1, b2⟩ := hB
  rw [ht] at b1
  obtain ⟨hP3, hD3⟩ := kj hP1 hD1 hk2 hFc b1 b2
  have := kk a H2 locs2 hP3 hD3 hS2
  rw [ha] at this
  exact this
