theorem kd1 (h : Nat) (e : va_E) : va_D (fun _ => True) [(h, e)] := by
  refine ⟨fun i j p q hp hq _ => ?_, fun _ _ _ => trivial⟩
  have h1 : i < 1 := (List.getElem?_eq_some_iff.mp hp).1
  have h2 : j < 1 := (List.getElem?_eq_some_iff.mp hq).1
  omega
def n_Waiting : MI := (⟨"FalseNotes$Waiting", "<init>", "()V"⟩, prog_9_method_1_code, 1, none, 0, 0, 7, [])
def wWt (k : Nat → ClassId) (a : Nat → Nat) : va_W := [(a 0, .inr (7, [.ref (a 1), .ref (a 2), .ref (a 3), .int 0])), (a 1, .inl (k 0, 8, .inl (fun _ => 0))), (a 2, .inl (k 0, 8, .inl (fun _ => 0))), (a 3, .inl (k 0, 8, .inl (fun _ => 0)))]
theorem f_Waiting : ∀ j, j < 4 → defaultValue (clTy 7 j) = vp_V [.null, .null, .null, .int 0] j := by decide +kernel
set_option maxHeartbeats 4000000 in
set_option maxRecDepth 100000 in
theorem k_Waiting (l : Launch) (D : va_G) (k : Nat → ClassId) : CK l D k n_Waiting 1 3 24 7 [.null, .null, .null, .int 0] (fun a : Nat → Nat => a 0) (wWt k) := by
  intro h0 sz
  refine Met.ofW (cc := prog_9_method_1_code) (maxL := 1) (ret := none) (by decide) rfl ?_
  intro p e s m args below meth c s₁ B hml hv
  obtain ⟨rfl, hsz, hP, hK⟩ := hv
  have S : CallFix p m c prog_9_method_1_code 1 s _ (WS n_Waiting) "FalseNotes$Waiting" := ⟨B.exec, B.bytes, hml, findClass_of_methodNamed B.named, atoms_spec (ws := WS n_Waiting) B.pre⟩
  have hx := S.1
  have hb := S.2.1
  have hown := S.2.2.2.1
  have hts := S.2.2.2.2
  have hr := B.returns
  have hlocks := B.notSynchronized
  have hin : meth.name = "<init>" := (name_of_methodNamed B.named B.method).1
  subst hsz
  have hD := (kd1 h0 (.inr (7, [.null, .null, .null, .int 0]))).self (sz := s.heap.size)
  generalize hAe : va_A [(h0, .inr (7, [.null, .null, .null, .int 0]))] s.heap.size = A at hD ⊢
  have hA : ∀ q : Nat, s.heap.size ≤ q → A q := fun q h => by rw [← hAe]; exact Or.inr h
  have hS : va_S A s.heap s.heap [] := va_S.rf
  have hl := lv_entry ([.ref h0]) (n := 1) (Nat.le_of_ble_eq_true rfl)
  rw [lg_entry_eq]
  generalize (lg_sl ([.ref h0]) ++ List.replicate (1 - (lg_sl ([.ref h0])).length) Slot.unset).toArray = ls at hl ⊢
  have hl : lv_has ls 1 [(0, .ref h0)] := hl
  refine lv_aload_n hx hb (show decode prog_9_method_1_code 0 = .ok (.aload_n 0, 1) by decide +kernel) rfl (lv_at hl 0 rfl) ?_
  refine W.objInit hx hb hown (hts _ (in_WS (h := 239) (by decide +kernel) rfl)) (hts _ (in_WS (h := 130) (by decide +kernel) rfl)) (hts _ (in_WS (h := 131) (by decide +kernel) rfl)) rfl (by rw [hml]; exact hl.1) rfl (show decode prog_9_method_1_code 1 = .ok (.invokespecial 3, 3) by decide +kernel) (Nat.le_of_ble_eq_true rfl) (Nat.le_of_ble_eq_true rfl) ?_
  refine W.eq (g2 := F0 m 4 ls []) rfl ?_
  refine lv_aload_n hx hb (show decode prog_9_method_1_code 4 = .ok (.aload_n 0, 1) by decide +kernel) rfl (lv_at hl 0 rfl) ?_
  refine lv_bipush (v := 8) hx hb (show decode prog_9_method_1_code 5 = .ok (.bipush 8, 2) by decide +kernel) (by decide +kernel) ?_
  refine kr_arrI (N := 8) S hK hP hD hS hA (by decide +kernel) (by decide +kernel) (by decide) (Nat.le_of_ble_eq_true rfl) (Nat.le_of_ble_eq_true rfl) (show decode prog_9_method_1_code 7 = .ok (.newarray .int, 2) by decide +kernel) (fun q0 H hP hD hS => ?_)
  have hP : va_P D vCl ((h0, .inr (7, [.null, .null, .null, .int 0])) :: (q0, .inl (k 0, 8, .inl (fun _ => 0))) :: ([])) H := hP
  have hD : va_D A ((h0, .inr (7, [.null, .null, .null, .int 0])) :: (q0, .inl (k 0, 8, .inl (fun _ => 0))) :: ([])) := hD
  refine va_putF (D := D) (ci := 7) (v := .ref q0) (ty := .array .int) (C := "FalseNotes$Waiting") (T := T_Waiting) (N := 4) hx hb hts (fun x hx2 => List.mem_cons_of_mem _ (cl_words ("FalseNotes$Waiting", T_Waiting, 4) (List.mem_of_getElem? (i := 7) rfl) x hx2)) (clTy 7) (cl_ty 7 (by decide) ("FalseNotes$Waiting", T_Waiting, 4) rfl) (cl_nm ("FalseNotes$Waiting", T_Waiting, 4) (List.mem_of_getElem? (i := 7) rfl)) hown hK.1 hP hD hS 0 rfl rfl 0 (by decide) (hts _ (in_WS (h := 240) (by decide +kernel) rfl)) (fun _ h9 => h9) rfl hin rfl (by decide +kernel) rfl rfl (Nat.le_of_ble_eq_true rfl) (show decode prog_9_method_1_code 9 = .ok (.putfield 11, 3) by decide +kernel) (fun H locs hP hD hS => ?_)
  have hP : va_P D vCl ((h0, .inr (7, [.ref q0, .null, .null, .int 0])) :: (q0, .inl (k 0, 8, .inl (fun _ => 0))) :: ([])) H := hP
  have hD : va_D A ((h0, .inr (7, [.ref q0, .null, .null, .int 0])) :: (q0, .inl (k 0, 8, .inl (fun _ => 0))) :: ([])) := hD
  refine W.eq (g2 := F0 m 12 ls []) rfl ?_
  refine lv_aload_n hx hb (show decode prog_9_method_1_code 12 = .ok (.aload_n 0, 1) by decide +kernel) rfl (lv_at hl 0 rfl) ?_
  refine lv_bipush (v := 8) hx hb (show decode prog_9_method_1_code 13 = .ok (.bipush 8, 2) by decide +kernel) (by decide +kernel) ?_
  refine kr_arrI (N := 8) S hK hP hD hS hA (by decide +kernel) (by decide +kernel) (by decide) (Nat.le_of_ble_eq_true rfl) (Nat.le_of_ble_eq_true rfl) (show decode prog_9_method_1_code 15 = .ok (.newarray .int, 2) by decide +kernel) (fun q1 H hP hD hS => ?_)
  have hP : va_P D vCl ((h0, .inr (7, [.ref q0, .null, .null, .int 0])) :: (q0, .inl (k 0, 8, .inl (fun _ => 0))) :: (q1, .inl (k 0, 8, .inl (fun _ => 0))) :: ([])) H := hP
  have hD : va_D A ((h0, .inr (7, [.ref q0, .null, .null, .int 0])) :: (q0, .inl (k 0, 8, .inl (fun _ => 0))) :: (q1, .inl (k 0, 8, .inl (fun _ => 0))) :: ([])) := hD
  refine va_putF (D := D) (ci := 7) (v := .ref q1) (ty := .array .int) (C := "FalseNotes$Waiting") (T := T_Waiting) (N := 4) hx hb hts (fun x hx2 => List.mem_cons_of_mem _ (cl_words ("FalseNotes$Waiting", T_Waiting, 4) (List.mem_of_getElem? (i := 7) rfl) x hx2)) (clTy 7) (cl_ty 7 (by decide) ("FalseNotes$Waiting", T_Waiting, 4) rfl) (cl_nm ("FalseNotes$Waiting", T_Waiting, 4) (List.mem_of_getElem? (i := 7) rfl)) hown hK.1 hP hD hS 0 rfl rfl 1 (by decide) (hts _ (in_WS (h := 243) (by decide +kernel) rfl)) (fun _ h9 => h9) rfl hin rfl (by decide +kernel) rfl rfl (Nat.le_of_ble_eq_true rfl) (show decode prog_9_method_1_code 17 = .ok (.putfield 15, 3) by decide +kernel) (fun H locs hP hD hS => ?_)
  have hP : va_P D vCl ((h0, .inr (7, [.ref q0, .ref q1, .null, .int 0])) :: (q0, .inl (k 0, 8, .inl (fun _ => 0))) :: (q1, .inl (k 0, 8, .inl (fun _ => 0))) :: ([])) H := hP
  have hD : va_D A ((h0, .inr (7, [.ref q0, .ref q1, .null, .int 0])) :: (q0, .inl (k 0, 8, .inl (fun _ => 0))) :: (q1, .inl (k 0, 8, .inl (fun _ => 0))) :: ([])) := hD
  refine W.eq (g2 := F0 m 20 ls []) rfl ?_
  refine lv_aload_n hx hb (show decode prog_9_method_1_code 20 = .ok (.aload_n 0, 1) by decide +kernel) rfl (lv_at hl 0 rfl) ?_
  refine lv_bipush (v := 8) hx hb (show decode prog_9_method_1_code 21 = .ok (.bipush 8, 2) by decide +kernel) (by decide +kernel) ?_
  refine kr_arrI (N := 8) S hK hP hD hS hA (by decide +kernel) (by decide +kernel) (by decide) (Nat.le_of_ble_eq_true rfl) (Nat.le_of_ble_eq_true rfl) (show decode prog_9_method_1_code 23 = .ok (.newarray .int, 2) by decide +kernel) (fun q2 H hP hD hS => ?_)
  have hP : va_P D vCl ((h0, .inr (7, [.ref q0, .ref q1, .null, .int 0])) :: (q0, .inl (k 0, 8, .inl (fun _ => 0))) :: (q1, .inl (k 0, 8, .inl (fun _ => 0))) :: (q2, .inl (k 0, 8, .inl (fun _ => 0))) :: ([])) H := hP
  have hD : va_D A ((h0, .inr (7, [.ref q0, .ref q1, .null, .int 0])) :: (q0, .inl (k 0, 8, .inl (fun _ => 0))) :: (q1, .inl (k 0, 8, .inl (fun _ => 0))) :: (q2, .inl (k 0, 8, .inl (fun _ => 0))) :: ([])) := hD
  refine va_putF (D := D) (ci := 7) (v := .ref q2) (ty := .array .int) (C := "FalseNotes$Waiting") (T := T_Waiting) (N := 4) hx hb hts (fun x hx2 => List.mem_cons_of_mem _ (cl_words ("FalseNotes$Waiting", T_Waiting, 4) (List.mem_of_getElem? (i := 7) rfl) x hx2)) (clTy 7) (cl_ty 7 (by decide) ("FalseNotes$Waiting", T_Waiting, 4) rfl) (cl_nm ("FalseNotes$Waiting", T_Waiting, 4) (List.mem_of_getElem? (i := 7) rfl)) hown hK.1 hP hD hS 0 rfl rfl 2 (by decide) (hts _ (in_WS (h := 246) (by decide +kernel) rfl)) (fun _ h9 => h9) rfl hin rfl (by decide +kernel) rfl rfl (Nat.le_of_ble_eq_true rfl) (show decode prog_9_method_1_code 25 = .ok (.putfield 18, 3) by decide +kernel) (fun H locs hP hD hS => ?_)
  have hP : va_P D vCl ((h0, .inr (7, [.ref q0, .ref q1, .ref q2, .int 0])) :: (q0, .inl (k 0, 8, .inl (fun _ => 0))) :: (q1, .inl (k 0, 8, .inl (fun _ => 0))) :: (q2, .inl (k 0, 8, .inl (fun _ => 0))) :: ([])) H := hP
  have hD : va_D A ((h0, .inr (7, [.ref q0, .ref q1, .ref q2, .int 0])) :: (q0, .inl (k 0, 8, .inl (fun _ => 0))) :: (q1, .inl (k 0, 8, .inl (fun _ => 0))) :: (q2, .inl (k 0, 8, .inl (fun _ => 0))) :: ([])) := hD
  refine W.eq (g2 := F0 m 28 ls []) rfl ?_
  refine lv_aload_n hx hb (show decode prog_9_method_1_code 28 = .ok (.aload_n 0, 1) by decide +kernel) rfl (lv_at hl 0 rfl) ?_
  refine lv_iconst (v := 0) hx hb (show decode prog_9_method_1_code 29 = .ok (.iconst 0, 1) by decide +kernel) (by decide +kernel) ?_
  refine va_put (D := D) (ci := 7) (v := .int 0) (ty := .int) (C := "FalseNotes$Waiting") (T := T_Waiting) (N := 4) hx hb hts (fun x hx2 => List.mem_cons_of_mem _ (cl_words ("FalseNotes$Waiting", T_Waiting, 4) (List.mem_of_getElem? (i := 7) rfl) x hx2)) (clTy 7) (cl_ty 7 (by decide) ("FalseNotes$Waiting", T_Waiting, 4) rfl) (cl_nm ("FalseNotes$Waiting", T_Waiting, 4) (List.mem_of_getElem? (i := 7) rfl)) hown hK.1 hP hD hS 0 rfl rfl 3 (by decide) (hts _ (in_WS (h := 249) (by decide +kernel) rfl)) (fun _ h9 => h9) rfl (by decide +kernel) rfl rfl (Nat.le_of_ble_eq_true rfl) (show decode prog_9_method_1_code 30 = .ok (.putfield 21, 3) by decide +kernel) (fun H locs hP hD hS => ?_)
  have hP : va_P D vCl ((h0, .inr (7, [.ref q0, .ref q1, .ref q2, .int 0])) :: (q0, .inl (k 0, 8, .inl (fun _ => 0))) :: (q1, .inl (k 0, 8, .inl (fun _ => 0))) :: (q2, .inl (k 0, 8, .inl (fun _ => 0))) :: ([])) H := hP
  have hD : va_D A ((h0, .inr (7, [.ref q0, .ref q1, .ref q2, .int 0])) :: (q0, .inl (k 0, 8, .inl (fun _ => 0))) :: (q1, .inl (k 0, 8, .inl (fun _ => 0))) :: (q2, .inl (k 0, 8, .inl (fun _ => 0))) :: ([])) := hD
  refine W.eq (g2 := F0 m 33 ls []) rfl ?_
  exact W.vret hx hb hr (fun t ht hW => ⟨⟨fun j => [h0, q0, q1, q2].getD j 0, rfl, rfl, by rw [ht]; exact hP, hD⟩, hS.F ht⟩) hS.2.2 (show decode prog_9_method_1_code 33 = .ok (.return_, 1) by decide +kernel)
def n_Tokens : MI := (⟨"FalseNotes$Tokens", "<init>", "()V"⟩, prog_7_method_1_code, 1, none, 0, 0, 5, [])
def wTok (k : Nat → ClassId) (a : Nat → Nat) : va_W := [(a 0, .inr (5, [.ref (a 1), .int 0, .int 0, .int 0, .int 0, .int 0, .int 0, .int 0, .int (-1), .long 0, .int 0])), (a 1, .inl (k 2, 0, .inl (fun _ => 0)))]
theorem f_Tokens : ∀ j, j < 11 → defaultValue (clTy 5 j) = vp_V [.null, .int 0, .int 0, .int 0, .int 0, .int 0, .int 0, .int 0, .int 0, .long 0, .int 0] j := by decide +kernel
set_option maxHeartbeats 4000000 in
set_option maxRecDepth 100000 in
theorem k_Tokens (l : Launch) (D : va_G) (k : Nat → ClassId) : CK l D k n_Tokens 1 1 0 5 [.null, .int 0, .int 0, .int 0, .int 0, .int 0, .int 0, .int 0, .int 0, .long 0, .int 0] (fun a : Nat → Nat => a 0) (wTok k) := by
  intro h0 sz
  refine Met.ofW (cc := prog_7_method_1_code) (maxL := 1) (ret := none) (by decide) rfl ?_
  intro p e s m args below meth c s₁ B hml hv
  obtain ⟨rfl, hsz, hP, hK⟩ := hv
  have S : CallFix p m c prog_7_method_1_code 1 s _ (WS n_Tokens) "FalseNotes$Tokens" := ⟨B.exec, B.bytes, hml, findClass_of_methodNamed B.named, atoms_spec (ws := WS n_Tokens) B.pre⟩
  have hx := S.1
  have hb := S.2.1
  have hown := S.2.2.2.1
  have hts := S.2.2.2.2
  have hr := B.returns
  have hlocks := B.notSynchronized
  have hin : meth.name = "<init>" := (name_of_methodNamed B.named B.method).1
  subst hsz
  have hD := (kd1 h0 (.inr (5, [.null, .int 0, .int 0, .int 0, .int 0, .int 0, .int 0, .int 0, .int 0, .long 0, .int 0]))).self (sz := s.heap.size)
  generalize hAe : va_A [(h0, .inr (5, [.null, .int 0, .int 0, .int 0, .int 0, .int 0, .int 0, .int 0, .int 0, .long 0, .int 0]))] s.heap.size = A at hD ⊢
  have hA : ∀ q : Nat, s.heap.size ≤ q → A q := fun q h => by rw [← hAe]; exact Or.inr h
  have hS : va_S A s.heap s.heap [] := va_S.rf
  have hl := lv_entry ([.ref h0]) (n := 1) (Nat.le_of_ble_eq_true rfl)
  rw [lg_entry_eq]
  generalize (lg_sl ([.ref h0]) ++ List.replicate (1 - (lg_sl ([.ref h0])).length) Slot.unset).toArray = ls at hl ⊢
  have hl : lv_has ls 1 [(0, .ref h0)] := hl
  refine lv_aload_n hx hb (show decode prog_7_method_1_code 0 = .ok (.aload_n 0, 1) by decide +kernel) rfl (lv_at hl 0 rfl) ?_
  refine W.objInit hx hb hown (hts _ (in_WS (h := 145) (by decide +kernel) rfl)) (hts _ (in_WS (h := 130) (by decide +kernel) rfl)) (hts _ (in_WS (h := 131) (by decide +kernel) rfl)) rfl (by rw [hml]; exact hl.1) rfl (show decode prog_7_method_1_code 1 = .ok (.invokespecial 3, 3) by decide +kernel) (Nat.le_of_ble_eq_true rfl) (Nat.le_of_ble_eq_true rfl) ?_
  refine W.eq (g2 := F0 m 4 ls []) rfl ?_
  refine lv_aload_n hx hb (show decode prog_7_method_1_code 4 = .ok (.aload_n 0, 1) by decide +kernel) rfl (lv_at hl 0 rfl) ?_
  refine lv_iconst (v := 0) hx hb (show decode prog_7_method_1_code 5 = .ok (.iconst 0, 1) by decide +kernel) (by decide +kernel) ?_
  refine kr_arrB (N := 0) S hK hP hD hS hA (by decide +kernel) (by decide +kernel) (by decide) (Nat.le_of_ble_eq_true rfl) (Nat.le_of_ble_eq_true rfl) (show decode prog_7_method_1_code 6 = .ok (.newarray .byte, 2) by decide +kernel) (fun q0 H hP hD hS => ?_)
  have hP : va_P D vCl ((h0, .inr (5, [.null, .int 0, .int 0, .int 0, .int 0, .int 0, .int 0, .int 0, .int 0, .long 0, .int 0])) :: (q0, .inl (k 2, 0, .inl (fun _ => 0))) :: ([])) H := hP
  have hD : va_D A ((h0, .inr (5, [.null, .int 0, .int 0, .int 0, .int 0, .int 0, .int 0, .int 0, .int 0, .long 0, .int 0])) :: (q0, .inl (k 2, 0, .inl (fun _ => 0))) :: ([])) := hD
  refine va_put (D := D) (ci := 5) (v := .ref q0) (ty := .array .byte) (C := "FalseNotes$Tokens") (T := T_Tokens) (N := 11) hx hb hts (fun x hx2 => List.mem_cons_of_mem _ (cl_words ("FalseNotes$Tokens", T_Tokens, 11) (List.mem_of_getElem? (i := 5) rfl) x hx2)) (clTy 5) (cl_ty 5 (by decide) ("FalseNotes$Tokens", T_Tokens, 11) rfl) (cl_nm ("FalseNotes$Tokens", T_Tokens, 11) (List.mem_of_getElem? (i := 5) rfl)) hown hK.1 hP hD hS 0 rfl rfl 0 (by decide) (hts _ (in_WS (h := 146) (by decide +kernel) rfl)) (fun _ h9 => h9) rfl (by decide +kernel) rfl rfl (Nat.le_of_ble_eq_true rfl) (show decode prog_7_method_1_code 8 = .ok (.putfield 9, 3) by decide +kernel) (fun H locs hP hD hS => ?_)
  have hP : va_P D vCl ((h0, .inr (5, [.ref q0, .int 0, .int 0, .int 0, .int 0, .int 0, .int 0, .int 0, .int 0, .long 0, .int 0])) :: (q0, .inl (k 2, 0, .inl (fun _ => 0))) :: ([])) H := hP
  have hD : va_D A ((h0, .inr (5, [.ref q0, .int 0, .int 0, .int 0, .int 0, .int 0, .int 0, .int 0, .int 0, .long 0, .int 0])) :: (q0, .inl (k 2, 0, .inl (fun _ => 0))) :: ([])) := hD
  refine W.eq (g2 := F0 m 11 ls []) rfl ?_
  refine lv_aload_n hx hb (show decode prog_7_method_1_code 11 = .ok (.aload_n 0, 1) by decide +kernel) rfl (lv_at hl 0 rfl) ?_
  refine lv_iconst (v := 0) hx hb (show decode prog_7_method_1_code 12 = .ok (.iconst 0, 1) by decide +kernel) (by decide +kernel) ?_
  refine va_put (D := D) (ci := 5) (v := .int 0) (ty := .int) (C := "FalseNotes$Tokens") (T := T_Tokens) (N := 11) hx hb hts (fun x hx2 => List.mem_cons_of_mem _ (cl_words ("FalseNotes$Tokens", T_Tokens, 11) (List.mem_of_getElem? (i := 5) rfl) x hx2)) (clTy 5) (cl_ty 5 (by decide) ("FalseNotes$Tokens", T_Tokens, 11) rfl) (cl_nm ("FalseNotes$Tokens", T_Tokens, 11) (List.mem_of_getElem? (i := 5) rfl)) hown hK.1 hP hD hS 0 rfl rfl 1 (by decide) (hts _ (in_WS (h := 147) (by decide +kernel) rfl)) (fun _ h9 => h9) rfl (by decide +kernel) rfl rfl (Nat.le_of_ble_eq_true rfl) (show decode prog_7_method_1_code 13 = .ok (.putfield 15, 3) by decide +kernel) (fun H locs hP hD hS => ?_)
  have hP : va_P D vCl ((h0, .inr (5, [.ref q0, .int 0, .int 0, .int 0, .int 0, .int 0, .int 0, .int 0, .int 0, .long 0, .int 0])) :: (q0, .inl (k 2, 0, .inl (fun _ => 0))) :: ([])) H := hP
  have hD : va_D A ((h0, .inr (5, [.ref q0, .int 0, .int 0, .int 0, .int 0, .int 0, .int 0, .int 0, .int 0, .long 0, .int 0])) :: (q0, .inl (k 2, 0, .inl (fun _ => 0))) :: ([])) := hD
  refine W.eq (g2 := F0 m 16 ls []) rfl ?_
  refine lv_aload_n hx hb (show decode prog_7_method_1_code 16 = .ok (.aload_n 0, 1) by decide +kernel) rfl (lv_at hl 0 rfl) ?_
  refine lv_iconst (v := 0) hx hb (show decode prog_7_method_1_code 17 = .ok (.iconst 0, 1) by decide +kernel) (by decide +kernel) ?_
  refine va_put (D := D) (ci := 5) (v := .int 0) (ty := .int) (C := "FalseNotes$Tokens") (T := T_Tokens) (N := 11) hx hb hts (fun x hx2 => List.mem_cons_of_mem _ (cl_words ("FalseNotes$Tokens", T_Tokens, 11) (List.mem_of_getElem? (i := 5) rfl) x hx2)) (clTy 5) (cl_ty 5 (by decide) ("FalseNotes$Tokens", T_Tokens, 11) rfl) (cl_nm ("FalseNotes$Tokens", T_Tokens, 11) (List.mem_of_getElem? (i := 5) rfl)) hown hK.1 hP hD hS 0 rfl rfl 2 (by decide) (hts _ (in_WS (h := 148) (by decide +kernel) rfl)) (fun _ h9 => h9) rfl (by decide +kernel) rfl rfl (Nat.le_of_ble_eq_true rfl) (show decode prog_7_method_1_code 18 = .ok (.putfield 19, 3) by decide +kernel) (fun H locs hP hD hS => ?_)
  have hP : va_P D vCl ((h0, .inr (5, [.ref q0, .int 0, .int 0, .int 0, .int 0, .int 0, .int 0, .int 0, .int 0, .long 0, .int 0])) :: (q0, .inl (k 2, 0, .inl (fun _ => 0))) :: ([])) H := hP
  have hD : va_D A ((h0, .inr (5, [.ref q0, .int 0, .int 0, .int 0, .int 0, .int 0, .int 0, .int 0, .int 0, .long 0, .int 0])) :: (q0, .inl (k 2, 0, .inl (fun _ => 0))) :: ([])) := hD
  refine W.eq (g2 := F0 m 21 ls []) rfl ?_
  refine lv_aload_n hx hb (show decode prog_7_method_1_code 21 = .ok (.aload_n 0, 1) by decide +kernel) rfl (lv_at hl 0 rfl) ?_
  refine lv_iconst (v := 0) hx hb (show decode prog_7_method_1_code 22 = .ok (.iconst 0, 1) by decide +kernel) (by decide +kernel) ?_
  refine va_put (D := D) (ci := 5) (v := .int 0) (ty := .int) (C := "FalseNotes$Tokens") (T := T_Tokens) (N := 11) hx hb hts (fun x hx2 => List.mem_cons_of_mem _ (cl_words ("FalseNotes$Tokens", T_Tokens, 11) (List.mem_of_getElem? (i := 5) rfl) x hx2)) (clTy 5) (cl_ty 5 (by decide) ("FalseNotes$Tokens", T_Tokens, 11) rfl) (cl_nm ("FalseNotes$Tokens", T_Tokens, 11) (List.mem_of_getElem? (i := 5) rfl)) hown hK.1 hP hD hS 0 rfl rfl 3 (by decide) (hts _ (in_WS (h := 149) (by decide +kernel) rfl)) (fun _ h9 => h9) rfl (by decide +kernel) rfl rfl (Nat.le_of_ble_eq_true rfl) (show decode prog_7_method_1_code 23 = .ok (.putfield 22, 3) by decide +kernel) (fun H locs hP hD hS => ?_)
  have hP : va_P D vCl ((h0, .inr (5, [.ref q0, .int 0, .int 0, .int 0, .int 0, .int 0, .int 0, .int 0, .int 0, .long 0, .int 0])) :: (q0, .inl (k 2, 0, .inl (fun _ => 0))) :: ([])) H := hP
  have hD : va_D A ((h0, .inr (5, [.ref q0, .int 0, .int 0, .int 0, .int 0, .int 0, .int 0, .int 0, .int 0, .long 0, .int 0])) :: (q0, .inl (k 2, 0, .inl (fun _ => 0))) :: ([])) := hD
  refine W.eq (g2 := F0 m 26 ls []) rfl ?_
  refine lv_aload_n hx hb (show decode prog_7_method_1_code 26 = .ok (.aload_n 0, 1) by decide +kernel) rfl (lv_at hl 0 rfl) ?_
  refine lv_iconst (v := 0) hx hb (show decode prog_7_method_1_code 27 = .ok (.iconst 0, 1) by decide +kernel) (by decide +kernel) ?_
  refine va_put (D := D) (ci := 5) (v := .int 0) (ty := .int) (C := "FalseNotes$Tokens") (T := T_Tokens) (N := 11) hx hb hts (fun x hx2 => List.mem_cons_of_mem _ (cl_words ("FalseNotes$Tokens", T_Tokens, 11) (List.mem_of_getElem? (i := 5) rfl) x hx2)) (clTy 5) (cl_ty 5 (by decide) ("FalseNotes$Tokens", T_Tokens, 11) rfl) (cl_nm ("FalseNotes$Tokens", T_Tokens, 11) (List.mem_of_getElem? (i := 5) rfl)) hown hK.1 hP hD hS 0 rfl rfl 4 (by decide) (hts _ (in_WS (h := 152) (by decide +kernel) rfl)) (fun _ h9 => h9) rfl (by decide +kernel) rfl rfl (Nat.le_of_ble_eq_true rfl) (show decode prog_7_method_1_code 28 = .ok (.putfield 25, 3) by decide +kernel) (fun H locs hP hD hS => ?_)
  have hP : va_P D vCl ((h0, .inr (5, [.ref q0, .int 0, .int 0, .int 0, .int 0, .int 0, .int 0, .int 0, .int 0, .long 0, .int 0])) :: (q0, .inl (k 2, 0, .inl (fun _ => 0))) :: ([])) H := hP
  have hD : va_D A ((h0, .inr (5, [.ref q0, .int 0, .int 0, .int 0, .int 0, .int 0, .int 0, .int 0, .int 0, .long 0, .int 0])) :: (q0, .inl (k 2, 0, .inl (fun _ => 0))) :: ([])) := hD
  refine W.eq (g2 := F0 m 31 ls []) rfl ?_
  refine lv_aload_n hx hb (show decode prog_7_method_1_code 31 = .ok (.aload_n 0, 1) by decide +kernel) rfl (lv_at hl 0 rfl) ?_
  refine lv_iconst (v := 0) hx hb (show decode prog_7_method_1_code 32 = .ok (.iconst 0, 1) by decide +kernel) (by decide +kernel) ?_
  refine va_put (D := D) (ci := 5) (v := .int 0) (ty := .int) (C := "FalseNotes$Tokens") (T := T_Tokens) (N := 11) hx hb hts (fun x hx2 => List.mem_cons_of_mem _ (cl_words ("FalseNotes$Tokens", T_Tokens, 11) (List.mem_of_getElem? (i := 5) rfl) x hx2)) (clTy 5) (cl_ty 5 (by decide) ("FalseNotes$Tokens", T_Tokens, 11) rfl) (cl_nm ("FalseNotes$Tokens", T_Tokens, 11) (List.mem_of_getElem? (i := 5) rfl)) hown hK.1 hP hD hS 0 rfl rfl 5 (by decide) (hts _ (in_WS (h := 154) (by decide +kernel) rfl)) (fun _ h9 => h9) rfl (by decide +kernel) rfl rfl (Nat.le_of_ble_eq_true rfl) (show decode prog_7_method_1_code 33 = .ok (.putfield 28, 3) by decide +kernel) (fun H locs hP hD hS => ?_)
  have hP : va_P D vCl ((h0, .inr (5, [.ref q0, .int 0, .int 0, .int 0, .int 0, .int 0, .int 0, .int 0, .int 0, .long 0, .int 0])) :: (q0, .inl (k 2, 0, .inl (fun _ => 0))) :: ([])) H := hP
  have hD : va_D A ((h0, .inr (5, [.ref q0, .int 0, .int 0, .int 0, .int 0, .int 0, .int 0, .int 0, .int 0, .long 0, .int 0])) :: (q0, .inl (k 2, 0, .inl (fun _ => 0))) :: ([])) := hD
  refine W.eq (g2 := F0 m 36 ls []) rfl ?_
  refine lv_aload_n hx hb (show decode prog_7_method_1_code 36 = .ok (.aload_n 0, 1) by decide +kernel) rfl (lv_at hl 0 rfl) ?_
  refine lv_iconst (v := 0) hx hb (show decode prog_7_method_1_code 37 = .ok (.iconst 0, 1) by decide +kernel) (by decide +kernel) ?_
  refine va_put (D := D) (ci := 5) (v := .int 0) (ty := .int) (C := "FalseNotes$Tokens") (T := T_Tokens) (N := 11) hx hb hts (fun x hx2 => List.mem_cons_of_mem _ (cl_words ("FalseNotes$Tokens", T_Tokens, 11) (List.mem_of_getElem? (i := 5) rfl) x hx2)) (clTy 5) (cl_ty 5 (by decide) ("FalseNotes$Tokens", T_Tokens, 11) rfl) (cl_nm ("FalseNotes$Tokens", T_Tokens, 11) (List.mem_of_getElem? (i := 5) rfl)) hown hK.1 hP hD hS 0 rfl rfl 6 (by decide) (hts _ (in_WS (h := 157) (by decide +kernel) rfl)) (fun _ h9 => h9) rfl (by decide +kernel) rfl rfl (Nat.le_of_ble_eq_true rfl) (show decode prog_7_method_1_code 38 = .ok (.putfield 31, 3) by decide +kernel) (fun H locs hP hD hS => ?_)
  have hP : va_P D vCl ((h0, .inr (5, [.ref q0, .int 0, .int 0, .int 0, .int 0, .int 0, .int 0, .int 0, .int 0, .long 0, .int 0])) :: (q0, .inl (k 2, 0, .inl (fun _ => 0))) :: ([])) H := hP
  have hD : va_D A ((h0, .inr (5, [.ref q0, .int 0, .int 0, .int 0, .int 0, .int 0, .int 0, .int 0, .int 0, .long 0, .int 0])) :: (q0, .inl (k 2, 0, .inl (fun _ => 0))) :: ([])) := hD
  refine W.eq (g2 := F0 m 41 ls []) rfl ?_
  refine lv_aload_n hx hb (show decode prog_7_method_1_code 41 = .ok (.aload_n 0, 1) by decide +kernel) rfl (lv_at hl 0 rfl) ?_
  refine lv_iconst (v := 0) hx hb (show decode prog_7_method_1_code 42 = .ok (.iconst 0, 1) by decide +kernel) (by decide +kernel) ?_
  refine va_put (D := D) (ci := 5) (v := .int 0) (ty := .int) (C := "FalseNotes$Tokens") (T := T_Tokens) (N := 11) hx hb hts (fun x hx2 => List.mem_cons_of_mem _ (cl_words ("FalseNotes$Tokens", T_Tokens, 11) (List.mem_of_getElem? (i := 5) rfl) x hx2)) (clTy 5) (cl_ty 5 (by decide) ("FalseNotes$Tokens", T_Tokens, 11) rfl) (cl_nm ("FalseNotes$Tokens", T_Tokens, 11) (List.mem_of_getElem? (i := 5) rfl)) hown hK.1 hP hD hS 0 rfl rfl 7 (by decide) (hts _ (in_WS (h := 159) (by decide +kernel) rfl)) (fun _ h9 => h9) rfl (by decide +kernel) rfl rfl (Nat.le_of_ble_eq_true rfl) (show decode prog_7_method_1_code 43 = .ok (.putfield 34, 3) by decide +kernel) (fun H locs hP hD hS => ?_)
  have hP : va_P D vCl ((h0, .inr (5, [.ref q0, .int 0, .int 0, .int 0, .int 0, .int 0, .int 0, .int 0, .int 0, .long 0, .int 0])) :: (q0, .inl (k 2, 0, .inl (fun _ => 0))) :: ([])) H := hP
  have hD : va_D A ((h0, .inr (5, [.ref q0, .int 0, .int 0, .int 0, .int 0, .int 0, .int 0, .int 0, .int 0, .long 0, .int 0])) :: (q0, .inl (k 2, 0, .inl (fun _ => 0))) :: ([])) := hD
  refine W.eq (g2 := F0 m 46 ls []) rfl ?_
  refine lv_aload_n hx hb (show decode prog_7_method_1_code 46 = .ok (.aload_n 0, 1) by decide +kernel) rfl (lv_at hl 0 rfl) ?_
  refine lv_iconst (v := (-1)) hx hb (show decode prog_7_method_1_code 47 = .ok (.iconst (-1), 1) by decide +kernel) (by decide +kernel) ?_
  refine va_put (D := D) (ci := 5) (v := .int (-1)) (ty := .int) (C := "FalseNotes$Tokens") (T := T_Tokens) (N := 11) hx hb hts (fun x hx2 => List.mem_cons_of_mem _ (cl_words ("FalseNotes$Tokens", T_Tokens, 11) (List.mem_of_getElem? (i := 5) rfl) x hx2)) (clTy 5) (cl_ty 5 (by decide) ("FalseNotes$Tokens", T_Tokens, 11) rfl) (cl_nm ("FalseNotes$Tokens", T_Tokens, 11) (List.mem_of_getElem? (i := 5) rfl)) hown hK.1 hP hD hS 0 rfl rfl 8 (by decide) (hts _ (in_WS (h := 160) (by decide +kernel) rfl)) (fun _ h9 => h9) rfl (by decide +kernel) rfl rfl (Nat.le_of_ble_eq_true rfl) (show decode prog_7_method_1_code 48 = .ok (.putfield 37, 3) by decide +kernel) (fun H locs hP hD hS => ?_)
  have hP : va_P D vCl ((h0, .inr (5, [.ref q0, .int 0, .int 0, .int 0, .int 0, .int 0, .int 0, .int 0, .int (-1), .long 0, .int 0])) :: (q0, .inl (k 2, 0, .inl (fun _ => 0))) :: ([])) H := hP
  have hD : va_D A ((h0, .inr (5, [.ref q0, .int 0, .int 0, .int 0, .int 0, .int 0, .int 0, .int 0, .int (-1), .long 0, .int 0])) :: (q0, .inl (k 2, 0, .inl (fun _ => 0))) :: ([])) := hD
  refine W.eq (g2 := F0 m 51 ls []) rfl ?_
  refine lv_aload_n hx hb (show decode prog_7_method_1_code 51 = .ok (.aload_n 0, 1) by decide +kernel) rfl (lv_at hl 0 rfl) ?_
  refine lv_lconst (v := 0) hx hb (show decode prog_7_method_1_code 52 = .ok (.lconst 0, 1) by decide +kernel) (by decide +kernel) ?_
  refine va_put (D := D) (ci := 5) (v := .long 0) (ty := .long) (C := "FalseNotes$Tokens") (T := T_Tokens) (N := 11) hx hb hts (fun x hx2 => List.mem_cons_of_mem _ (cl_words ("FalseNotes$Tokens", T_Tokens, 11) (List.mem_of_getElem? (i := 5) rfl) x hx2)) (clTy 5) (cl_ty 5 (by decide) ("FalseNotes$Tokens", T_Tokens, 11) rfl) (cl_nm ("FalseNotes$Tokens", T_Tokens, 11) (List.mem_of_getElem? (i := 5) rfl)) hown hK.1 hP hD hS 0 rfl rfl 9 (by decide) (hts _ (in_WS (h := 163) (by decide +kernel) rfl)) (fun _ h9 => h9) rfl (by decide +kernel) rfl rfl (Nat.le_of_ble_eq_true rfl) (show decode prog_7_method_1_code 53 = .ok (.putfield 40, 3) by decide +kernel) (fun H locs hP hD hS => ?_)
  have hP : va_P D vCl ((h0, .inr (5, [.ref q0, .int 0, .int 0, .int 0, .int 0, .int 0, .int 0, .int 0, .int (-1), .long 0, .int 0])) :: (q0, .inl (k 2, 0, .inl (fun _ => 0))) :: ([])) H := hP
  have hD : va_D A ((h0, .inr (5, [.ref q0, .int 0, .int 0, .int 0, .int 0, .int 0, .int 0, .int 0, .int (-1), .long 0, .int 0])) :: (q0, .inl (k 2, 0, .inl (fun _ => 0))) :: ([])) := hD
  refine W.eq (g2 := F0 m 56 ls []) rfl ?_
  refine lv_aload_n hx hb (show decode prog_7_method_1_code 56 = .ok (.aload_n 0, 1) by decide +kernel) rfl (lv_at hl 0 rfl) ?_
  refine lv_iconst (v := 0) hx hb (show decode prog_7_method_1_code 57 = .ok (.iconst 0, 1) by decide +kernel) (by decide +kernel) ?_
  refine va_put (D := D) (ci := 5) (v := .int 0) (ty := .int) (C := "FalseNotes$Tokens") (T := T_Tokens) (N := 11) hx hb hts (fun x hx2 => List.mem_cons_of_mem _ (cl_words ("FalseNotes$Tokens", T_Tokens, 11) (List.mem_of_getElem? (i := 5) rfl) x hx2)) (clTy 5) (cl_ty 5 (by decide) ("FalseNotes$Tokens", T_Tokens, 11) rfl) (cl_nm ("FalseNotes$Tokens", T_Tokens, 11) (List.mem_of_getElem? (i := 5) rfl)) hown hK.1 hP hD hS 0 rfl rfl 10 (by decide) (hts _ (in_WS (h := 165) (by decide +kernel) rfl)) (fun _ h9 => h9) rfl (by decide +kernel) rfl rfl (Nat.le_of_ble_eq_true rfl) (show decode prog_7_method_1_code 58 = .ok (.putfield 44, 3) by decide +kernel) (fun H locs hP hD hS => ?_)
  have hP : va_P D vCl ((h0, .inr (5, [.ref q0, .int 0, .int 0, .int 0, .int 0, .int 0, .int 0, .int 0, .int (-1), .long 0, .int 0])) :: (q0, .inl (k 2, 0, .inl (fun _ => 0))) :: ([])) H := hP
  have hD : va_D A ((h0, .inr (5, [.ref q0, .int 0, .int 0, .int 0, .int 0, .int 0, .int 0, .int 0, .int (-1), .long 0, .int 0])) :: (q0, .inl (k 2, 0, .inl (fun _ => 0))) :: ([])) := hD
  refine W.eq (g2 := F0 m 61 ls []) rfl ?_
  exact W.vret hx hb hr (fun t ht hW => ⟨⟨fun j => [h0, q0].getD j 0, rfl, rfl, by rw [ht]; exact hP, hD⟩, hS.F ht⟩) hS.2.2 (show decode prog_7_method_1_code 61 = .ok (.return_, 1) by decide +kernel)
def n_Years : MI := (⟨"FalseNotes$Years", "<init>", "()V"⟩, prog_10_method_1_code, 1, none, 0, 0, 8, [])
def wYr (k : Nat → ClassId) (a : Nat → Nat) : va_W := [(a 0, .inr (8, [.ref (a 1), .ref (a 2), .ref (a 3), .ref (a 4), .ref (a 5), .ref (a 6), .int 0, .int 0, .int 0])), (a 1, .inl (k 0, 60, .inl (fun _ => 0))), (a 2, .inl (k 0, 60, .inl (fun _ => 0))), (a 3, .inl (k 0, 60, .inl (fun _ => 0))), (a 4, .inl (k 0, 60, .inl (fun _ => 0))), (a 5, .inl (k 0, 60, .inl (fun _ => 0))), (a 6, .inl (k 0, 60, .inl (fun _ => 0)))]
theorem f_Years : ∀ j, j < 9 → defaultValue (clTy 8 j) = vp_V [.null, .null, .null, .null, .null, .null, .int 0, .int 0, .int 0] j := by decide +kernel
set_option maxHeartbeats 4000000 in
set_option maxRecDepth 100000 in
theorem k_Years (l : Launch) (D : va_G) (k : Nat → ClassId) : CK l D k n_Years 1 6 360 8 [.null, .null, .null, .null, .null, .null, .int 0, .int 0, .int 0] (fun a : Nat → Nat => a 0) (wYr k) := by
  intro h0 sz
  refine Met.ofW (cc := prog_10_method_1_code) (maxL := 1) (ret := none) (by decide) rfl ?_
  intro p e s m args below meth c s₁ B hml hv
  obtain ⟨rfl, hsz, hP, hK⟩ := hv
  have S : CallFix p m c prog_10_method_1_code 1 s _ (WS n_Years) "FalseNotes$Years" := ⟨B.exec, B.bytes, hml, findClass_of_methodNamed B.named, atoms_spec (ws := WS n_Years) B.pre⟩
  have hx := S.1
  have hb := S.2.1
  have hown := S.2.2.2.1
  have hts := S.2.2.2.2
  have hr := B.returns
  have hlocks := B.notSynchronized
  have hin : meth.name = "<init>" := (name_of_methodNamed B.named B.method).1
  subst hsz
  have hD := (kd1 h0 (.inr (8, [.null, .null, .null, .null, .null, .null, .int 0, .int 0, .int 0]))).self (sz := s.heap.size)
  generalize hAe : va_A [(h0, .inr (8, [.null, .null, .null, .null, .null, .null, .int 0, .int 0, .int 0]))] s.heap.size = A at hD ⊢
  have hA : ∀ q : Nat, s.heap.size ≤ q → A q := fun q h => by rw [← hAe]; exact Or.inr h
  have hS : va_S A s.heap s.heap [] := va_S.rf
  have hl := lv_entry ([.ref h0]) (n := 1) (Nat.le_of_ble_eq_true rfl)
  rw [lg_entry_eq]
  generalize (lg_sl ([.ref h0]) ++ List.replicate (1 - (lg_sl ([.ref h0])).length) Slot.unset).toArray = ls at hl ⊢
  have hl : lv_has ls 1 [(0, .ref h0)] := hl
  refine lv_aload_n hx hb (show decode prog_10_method_1_code 0 = .ok (.aload_n 0, 1) by decide +kernel) rfl (lv_at hl 0 rfl) ?_
  refine W.objInit hx hb hown (hts _ (in_WS (h := 341) (by decide +kernel) rfl)) (hts _ (in_WS (h := 130) (by decide +kernel) rfl)) (hts _ (in_WS (h := 131) (by decide +kernel) rfl)) rfl (by rw [hml]; exact hl.1) rfl (show decode prog_10_method_1_code 1 = .ok (.invokespecial 5, 3) by decide +kernel) (Nat.le_of_ble_eq_true rfl) (Nat.le_of_ble_eq_true rfl) ?_
  refine W.eq (g2 := F0 m 4 ls []) rfl ?_
  refine lv_aload_n hx hb (show decode prog_10_method_1_code 4 = .ok (.aload_n 0, 1) by decide +kernel) rfl (lv_at hl 0 rfl) ?_
  refine lv_bipush (v := 60) hx hb (show decode prog_10_method_1_code 5 = .ok (.bipush 60, 2) by decide +kernel) (by decide +kernel) ?_
  refine kr_arrI (N := 60) S hK hP hD hS hA (by decide +kernel) (by decide +kernel) (by decide) (Nat.le_of_ble_eq_true rfl) (Nat.le_of_ble_eq_true rfl) (show decode prog_10_method_1_code 7 = .ok (.newarray .int, 2) by decide +kernel) (fun q0 H hP hD hS => ?_)
  have hP : va_P D vCl ((h0, .inr (8, [.null, .null, .null, .null, .null, .null, .int 0, .int 0, .int 0])) :: (q0, .inl (k 0, 60, .inl (fun _ => 0))) :: ([])) H := hP
  have hD : va_D A ((h0, .inr (8, [.null, .null, .null, .null, .null, .null, .int 0, .int 0, .int 0])) :: (q0, .inl (k 0, 60, .inl (fun _ => 0))) :: ([])) := hD
  refine va_putF (D := D) (ci := 8) (v := .ref q0) (ty := .array .int) (C := "FalseNotes$Years") (T := T_Years) (N := 9) hx hb hts (fun x hx2 => List.mem_cons_of_mem _ (cl_words ("FalseNotes$Years", T_Years, 9) (List.mem_of_getElem? (i := 8) rfl) x hx2)) (clTy 8) (cl_ty 8 (by decide) ("FalseNotes$Years", T_Years, 9) rfl) (cl_nm ("FalseNotes$Years", T_Years, 9) (List.mem_of_getElem? (i := 8) rfl)) hown hK.1 hP hD hS 0 rfl rfl 0 (by decide) (hts _ (in_WS (h := 342) (by decide +kernel) rfl)) (fun _ h9 => h9) rfl hin rfl (by decide +kernel) rfl rfl (Nat.le_of_ble_eq_true rfl) (show decode prog_10_method_1_code 9 = .ok (.putfield 11, 3) by decide +kernel) (fun H locs hP hD hS => ?_)
  have hP : va_P D vCl ((h0, .inr (8, [.ref q0, .null, .null, .null, .null, .null, .int 0, .int 0, .int 0])) :: (q0, .inl (k 0, 60, .inl (fun _ => 0))) :: ([])) H := hP
  have hD : va_D A ((h0, .inr (8, [.ref q0, .null, .null, .null, .null, .null, .int 0, .int 0, .int 0])) :: (q0, .inl (k 0, 60, .inl (fun _ => 0))) :: ([])) := hD
  refine W.eq (g2 := F0 m 12 ls []) rfl ?_
  refine lv_aload_n hx hb (show decode prog_10_method_1_code 12 = .ok (.aload_n 0, 1) by decide +kernel) rfl (lv_at hl 0 rfl) ?_
  refine lv_bipush (v := 60) hx hb (show decode prog_10_method_1_code 13 = .ok (.bipush 60, 2) by decide +kernel) (by decide +kernel) ?_
  refine kr_arrI (N := 60) S hK hP hD hS hA (by decide +kernel) (by decide +kernel) (by decide) (Nat.le_of_ble_eq_true rfl) (Nat.le_of_ble_eq_true rfl) (show decode prog_10_method_1_code 15 = .ok (.newarray .int, 2) by decide +kernel) (fun q1 H hP hD hS => ?_)
  have hP : va_P D vCl ((h0, .inr (8, [.ref q0, .null, .null, .null, .null, .null, .int 0, .int 0, .int 0])) :: (q0, .inl (k 0, 60, .inl (fun _ => 0))) :: (q1, .inl (k 0, 60, .inl (fun _ => 0))) :: ([])) H := hP
  have hD : va_D A ((h0, .inr (8, [.ref q0, .null, .null, .null, .null, .null, .int 0, .int 0, .int 0])) :: (q0, .inl (k 0, 60, .inl (fun _ => 0))) :: (q1, .inl (k 0, 60, .inl (fun _ => 0))) :: ([])) := hD
  refine va_putF (D := D) (ci := 8) (v := .ref q1) (ty := .array .int) (C := "FalseNotes$Years") (T := T_Years) (N := 9) hx hb hts (fun x hx2 => List.mem_cons_of_mem _ (cl_words ("FalseNotes$Years", T_Years, 9) (List.mem_of_getElem? (i := 8) rfl) x hx2)) (clTy 8) (cl_ty 8 (by decide) ("FalseNotes$Years", T_Years, 9) rfl) (cl_nm ("FalseNotes$Years", T_Years, 9) (List.mem_of_getElem? (i := 8) rfl)) hown hK.1 hP hD hS 0 rfl rfl 1 (by decide) (hts _ (in_WS (h := 345) (by decide +kernel) rfl)) (fun _ h9 => h9) rfl hin rfl (by decide +kernel) rfl rfl (Nat.le_of_ble_eq_true rfl) (show decode prog_10_method_1_code 17 = .ok (.putfield 15, 3) by decide +kernel) (fun H locs hP hD hS => ?_)
  have hP : va_P D vCl ((h0, .inr (8, [.ref q0, .ref q1, .null, .null, .null, .null, .int 0, .int 0, .int 0])) :: (q0, .inl (k 0, 60, .inl (fun _ => 0))) :: (q1, .inl (k 0, 60, .inl (fun _ => 0))) :: ([])) H := hP
  have hD : va_D A ((h0, .inr (8, [.ref q0, .ref q1, .null, .null, .null, .null, .int 0, .int 0, .int 0])) :: (q0, .inl (k 0, 60, .inl (fun _ => 0))) :: (q1, .inl (k 0, 60, .inl (fun _ => 0))) :: ([])) := hD
  refine W.eq (g2 := F0 m 20 ls []) rfl ?_
  refine lv_aload_n hx hb (show decode prog_10_method_1_code 20 = .ok (.aload_n 0, 1) by decide +kernel) rfl (lv_at hl 0 rfl) ?_
  refine lv_bipush (v := 60) hx hb (show decode prog_10_method_1_code 21 = .ok (.bipush 60, 2) by decide +kernel) (by decide +kernel) ?_
  refine kr_arrI (N := 60) S hK hP hD hS hA (by decide +kernel) (by decide +kernel) (by decide) (Nat.le_of_ble_eq_true rfl) (Nat.le_of_ble_eq_true rfl) (show decode prog_10_method_1_code 23 = .ok (.newarray .int, 2) by decide +kernel) (fun q2 H hP hD hS => ?_)
  have hP : va_P D vCl ((h0, .inr (8, [.ref q0, .ref q1, .null, .null, .null, .null, .int 0, .int 0, .int 0])) :: (q0, .inl (k 0, 60, .inl (fun _ => 0))) :: (q1, .inl (k 0, 60, .inl (fun _ => 0))) :: (q2, .inl (k 0, 60, .inl (fun _ => 0))) :: ([])) H := hP
  have hD : va_D A ((h0, .inr (8, [.ref q0, .ref q1, .null, .null, .null, .null, .int 0, .int 0, .int 0])) :: (q0, .inl (k 0, 60, .inl (fun _ => 0))) :: (q1, .inl (k 0, 60, .inl (fun _ => 0))) :: (q2, .inl (k 0, 60, .inl (fun _ => 0))) :: ([])) := hD
  refine va_putF (D := D) (ci := 8) (v := .ref q2) (ty := .array .int) (C := "FalseNotes$Years") (T := T_Years) (N := 9) hx hb hts (fun x hx2 => List.mem_cons_of_mem _ (cl_words ("FalseNotes$Years", T_Years, 9) (List.mem_of_getElem? (i := 8) rfl) x hx2)) (clTy 8) (cl_ty 8 (by decide) ("FalseNotes$Years", T_Years, 9) rfl) (cl_nm ("FalseNotes$Years", T_Years, 9) (List.mem_of_getElem? (i := 8) rfl)) hown hK.1 hP hD hS 0 rfl rfl 2 (by decide) (hts _ (in_WS (h := 348) (by decide +kernel) rfl)) (fun _ h9 => h9) rfl hin rfl (by decide +kernel) rfl rfl (Nat.le_of_ble_eq_true rfl) (show decode prog_10_method_1_code 25 = .ok (.putfield 18, 3) by decide +kernel) (fun H locs hP hD hS => ?_)
  have hP : va_P D vCl ((h0, .inr (8, [.ref q0, .ref q1, .ref q2, .null, .null, .null, .int 0, .int 0, .int 0])) :: (q0, .inl (k 0, 60, .inl (fun _ => 0))) :: (q1, .inl (k 0, 60, .inl (fun _ => 0))) :: (q2, .inl (k 0, 60, .inl (fun _ => 0))) :: ([])) H := hP
  have hD : va_D A ((h0, .inr (8, [.ref q0, .ref q1, .ref q2, .null, .null, .null, .int 0, .int 0, .int 0])) :: (q0, .inl (k 0, 60, .inl (fun _ => 0))) :: (q1, .inl (k 0, 60, .inl (fun _ => 0))) :: (q2, .inl (k 0, 60, .inl (fun _ => 0))) :: ([])) := hD
  refine W.eq (g2 := F0 m 28 ls []) rfl ?_
  refine lv_aload_n hx hb (show decode prog_10_method_1_code 28 = .ok (.aload_n 0, 1) by decide +kernel) rfl (lv_at hl 0 rfl) ?_
  refine lv_bipush (v := 60) hx hb (show decode prog_10_method_1_code 29 = .ok (.bipush 60, 2) by decide +kernel) (by decide +kernel) ?_
  refine kr_arrI (N := 60) S hK hP hD hS hA (by decide +kernel) (by decide +kernel) (by decide) (Nat.le_of_ble_eq_true rfl) (Nat.le_of_ble_eq_true rfl) (show decode prog_10_method_1_code 31 = .ok (.newarray .int, 2) by decide +kernel) (fun q3 H hP hD hS => ?_)
  have hP : va_P D vCl ((h0, .inr (8, [.ref q0, .ref q1, .ref q2, .null, .null, .null, .int 0, .int 0, .int 0])) :: (q0, .inl (k 0, 60, .inl (fun _ => 0))) :: (q1, .inl (k 0, 60, .inl (fun _ => 0))) :: (q2, .inl (k 0, 60, .inl (fun _ => 0))) :: (q3, .inl (k 0, 60, .inl (fun _ => 0))) :: ([])) H := hP
  have hD : va_D A ((h0, .inr (8, [.ref q0, .ref q1, .ref q2, .null, .null, .null, .int 0, .int 0, .int 0])) :: (q0, .inl (k 0, 60, .inl (fun _ => 0))) :: (q1, .inl (k 0, 60, .inl (fun _ => 0))) :: (q2, .inl (k 0, 60, .inl (fun _ => 0))) :: (q3, .inl (k 0, 60, .inl (fun _ => 0))) :: ([])) := hD
  refine va_putF (D := D) (ci := 8) (v := .ref q3) (ty := .array .int) (C := "FalseNotes$Years") (T := T_Years) (N := 9) hx hb hts (fun x hx2 => List.mem_cons_of_mem _ (cl_words ("FalseNotes$Years", T_Years, 9) (List.mem_of_getElem? (i := 8) rfl) x hx2)) (clTy 8) (cl_ty 8 (by decide) ("FalseNotes$Years", T_Years, 9) rfl) (cl_nm ("FalseNotes$Years", T_Years, 9) (List.mem_of_getElem? (i := 8) rfl)) hown hK.1 hP hD hS 0 rfl rfl 3 (by decide) (hts _ (in_WS (h := 351) (by decide +kernel) rfl)) (fun _ h9 => h9) rfl hin rfl (by decide +kernel) rfl rfl (Nat.le_of_ble_eq_true rfl) (show decode prog_10_method_1_code 33 = .ok (.putfield 21, 3) by decide +kernel) (fun H locs hP hD hS => ?_)
  have hP : va_P D vCl ((h0, .inr (8, [.ref q0, .ref q1, .ref q2, .ref q3, .null, .null, .int 0, .int 0, .int 0])) :: (q0, .inl (k 0, 60, .inl (fun _ => 0))) :: (q1, .inl (k 0, 60, .inl (fun _ => 0))) :: (q2, .inl (k 0, 60, .inl (fun _ => 0))) :: (q3, .inl (k 0, 60, .inl (fun _ => 0))) :: ([])) H := hP
  have hD : va_D A ((h0, .inr (8, [.ref q0, .ref q1, .ref q2, .ref q3, .null, .null, .int 0, .int 0, .int 0])) :: (q0, .inl (k 0, 60, .inl (fun _ => 0))) :: (q1, .inl (k 0, 60, .inl (fun _ => 0))) :: (q2, .inl (k 0, 60, .inl (fun _ => 0))) :: (q3, .inl (k 0, 60, .inl (fun _ => 0))) :: ([])) := hD
  refine W.eq (g2 := F0 m 36 ls []) rfl ?_
  refine lv_aload_n hx hb (show decode prog_10_method_1_code 36 = .ok (.aload_n 0, 1) by decide +kernel) rfl (lv_at hl 0 rfl) ?_
  refine lv_bipush (v := 60) hx hb (show decode prog_10_method_1_code 37 = .ok (.bipush 60, 2) by decide +kernel) (by decide +kernel) ?_
  refine kr_arrI (N := 60) S hK hP hD hS hA (by decide +kernel) (by decide +kernel) (by decide) (Nat.le_of_ble_eq_true rfl) (Nat.le_of_ble_eq_true rfl) (show decode prog_10_method_1_code 39 = .ok (.newarray .int, 2) by decide +kernel) (fun q4 H hP hD hS => ?_)
  have hP : va_P D vCl ((h0, .inr (8, [.ref q0, .ref q1, .ref q2, .ref q3, .null, .null, .int 0, .int 0, .int 0])) :: (q0, .inl (k 0, 60, .inl (fun _ => 0))) :: (q1, .inl (k 0, 60, .inl (fun _ => 0))) :: (q2, .inl (k 0, 60, .inl (fun _ => 0))) :: (q3, .inl (k 0, 60, .inl (fun _ => 0))) :: (q4, .inl (k 0, 60, .inl (fun _ => 0))) :: ([])) H := hP
  have hD : va_D A ((h0, .inr (8, [.ref q0, .ref q1, .ref q2, .ref q3, .null, .null, .int 0, .int 0, .int 0])) :: (q0, .inl (k 0, 60, .inl (fun _ => 0))) :: (q1, .inl (k 0, 60, .inl (fun _ => 0))) :: (q2, .inl (k 0, 60, .inl (fun _ => 0))) :: (q3, .inl (k 0, 60, .inl (fun _ => 0))) :: (q4, .inl (k 0, 60, .inl (fun _ => 0))) :: ([])) := hD
  refine va_putF (D := D) (ci := 8) (v := .ref q4) (ty := .array .int) (C := "FalseNotes$Years") (T := T_Years) (N := 9) hx hb hts (fun x hx2 => List.mem_cons_of_mem _ (cl_words ("FalseNotes$Years", T_Years, 9) (List.mem_of_getElem? (i := 8) rfl) x hx2)) (clTy 8) (cl_ty 8 (by decide) ("FalseNotes$Years", T_Years, 9) rfl) (cl_nm ("FalseNotes$Years", T_Years, 9) (List.mem_of_getElem? (i := 8) rfl)) hown hK.1 hP hD hS 0 rfl rfl 4 (by decide) (hts _ (in_WS (h := 354) (by decide +kernel) rfl)) (fun _ h9 => h9) rfl hin rfl (by decide +kernel) rfl rfl (Nat.le_of_ble_eq_true rfl) (show decode prog_10_method_1_code 41 = .ok (.putfield 24, 3) by decide +kernel) (fun H locs hP hD hS => ?_)
  have hP : va_P D vCl ((h0, .inr (8, [.ref q0, .ref q1, .ref q2, .ref q3, .ref q4, .null, .int 0, .int 0, .int 0])) :: (q0, .inl (k 0, 60, .inl (fun _ => 0))) :: (q1, .inl (k 0, 60, .inl (fun _ => 0))) :: (q2, .inl (k 0, 60, .inl (fun _ => 0))) :: (q3, .inl (k 0, 60, .inl (fun _ => 0))) :: (q4, .inl (k 0, 60, .inl (fun _ => 0))) :: ([])) H := hP
  have hD : va_D A ((h0, .inr (8, [.ref q0, .ref q1, .ref q2, .ref q3, .ref q4, .null, .int 0, .int 0, .int 0])) :: (q0, .inl (k 0, 60, .inl (fun _ => 0))) :: (q1, .inl (k 0, 60, .inl (fun _ => 0))) :: (q2, .inl (k 0, 60, .inl (fun _ => 0))) :: (q3, .inl (k 0, 60, .inl (fun _ => 0))) :: (q4, .inl (k 0, 60, .inl (fun _ => 0))) :: ([])) := hD
  refine W.eq (g2 := F0 m 44 ls []) rfl ?_
  refine lv_aload_n hx hb (show decode prog_10_method_1_code 44 = .ok (.aload_n 0, 1) by decide +kernel) rfl (lv_at hl 0 rfl) ?_
  refine lv_bipush (v := 60) hx hb (show decode prog_10_method_1_code 45 = .ok (.bipush 60, 2) by decide +kernel) (by decide +kernel) ?_
  refine kr_arrI (N := 60) S hK hP hD hS hA (by decide +kernel) (by decide +kernel) (by decide) (Nat.le_of_ble_eq_true rfl) (Nat.le_of_ble_eq_true rfl) (show decode prog_10_method_1_code 47 = .ok (.newarray .int, 2) by decide +kernel) (fun q5 H hP hD hS => ?_)
  have hP : va_P D vCl ((h0, .inr (8, [.ref q0, .ref q1, .ref q2, .ref q3, .ref q4, .null, .int 0, .int 0, .int 0])) :: (q0, .inl (k 0, 60, .inl (fun _ => 0))) :: (q1, .inl (k 0, 60, .inl (fun _ => 0))) :: (q2, .inl (k 0, 60, .inl (fun _ => 0))) :: (q3, .inl (k 0, 60, .inl (fun _ => 0))) :: (q4, .inl (k 0, 60, .inl (fun _ => 0))) :: (q5, .inl (k 0, 60, .inl (fun _ => 0))) :: ([])) H := hP
  have hD : va_D A ((h0, .inr (8, [.ref q0, .ref q1, .ref q2, .ref q3, .ref q4, .null, .int 0, .int 0, .int 0])) :: (q0, .inl (k 0, 60, .inl (fun _ => 0))) :: (q1, .inl (k 0, 60, .inl (fun _ => 0))) :: (q2, .inl (k 0, 60, .inl (fun _ => 0))) :: (q3, .inl (k 0, 60, .inl (fun _ => 0))) :: (q4, .inl (k 0, 60, .inl (fun _ => 0))) :: (q5, .inl (k 0, 60, .inl (fun _ => 0))) :: ([])) := hD
  refine va_putF (D := D) (ci := 8) (v := .ref q5) (ty := .array .int) (C := "FalseNotes$Years") (T := T_Years) (N := 9) hx hb hts (fun x hx2 => List.mem_cons_of_mem _ (cl_words ("FalseNotes$Years", T_Years, 9) (List.mem_of_getElem? (i := 8) rfl) x hx2)) (clTy 8) (cl_ty 8 (by decide) ("FalseNotes$Years", T_Years, 9) rfl) (cl_nm ("FalseNotes$Years", T_Years, 9) (List.mem_of_getElem? (i := 8) rfl)) hown hK.1 hP hD hS 0 rfl rfl 5 (by decide) (hts _ (in_WS (h := 357) (by decide +kernel) rfl)) (fun _ h9 => h9) rfl hin rfl (by decide +kernel) rfl rfl (Nat.le_of_ble_eq_true rfl) (show decode prog_10_method_1_code 49 = .ok (.putfield 27, 3) by decide +kernel) (fun H locs hP hD hS => ?_)
  have hP : va_P D vCl ((h0, .inr (8, [.ref q0, .ref q1, .ref q2, .ref q3, .ref q4, .ref q5, .int 0, .int 0, .int 0])) :: (q0, .inl (k 0, 60, .inl (fun _ => 0))) :: (q1, .inl (k 0, 60, .inl (fun _ => 0))) :: (q2, .inl (k 0, 60, .inl (fun _ => 0))) :: (q3, .inl (k 0, 60, .inl (fun _ => 0))) :: (q4, .inl (k 0, 60, .inl (fun _ => 0))) :: (q5, .inl (k 0, 60, .inl (fun _ => 0))) :: ([])) H := hP
  have hD : va_D A ((h0, .inr (8, [.ref q0, .ref q1, .ref q2, .ref q3, .ref q4, .ref q5, .int 0, .int 0, .int 0])) :: (q0, .inl (k 0, 60, .inl (fun _ => 0))) :: (q1, .inl (k 0, 60, .inl (fun _ => 0))) :: (q2, .inl (k 0, 60, .inl (fun _ => 0))) :: (q3, .inl (k 0, 60, .inl (fun _ => 0))) :: (q4, .inl (k 0, 60, .inl (fun _ => 0))) :: (q5, .inl (k 0, 60, .inl (fun _ => 0))) :: ([])) := hD
  refine W.eq (g2 := F0 m 52 ls []) rfl ?_
  refine lv_aload_n hx hb (show decode prog_10_method_1_code 52 = .ok (.aload_n 0, 1) by decide +kernel) rfl (lv_at hl 0 rfl) ?_
  refine lv_iconst (v := 0) hx hb (show decode prog_10_method_1_code 53 = .ok (.iconst 0, 1) by decide +kernel) (by decide +kernel) ?_
  refine va_put (D := D) (ci := 8) (v := .int 0) (ty := .int) (C := "FalseNotes$Years") (T := T_Years) (N := 9) hx hb hts (fun x hx2 => List.mem_cons_of_mem _ (cl_words ("FalseNotes$Years", T_Years, 9) (List.mem_of_getElem? (i := 8) rfl) x hx2)) (clTy 8) (cl_ty 8 (by decide) ("FalseNotes$Years", T_Years, 9) rfl) (cl_nm ("FalseNotes$Years", T_Years, 9) (List.mem_of_getElem? (i := 8) rfl)) hown hK.1 hP hD hS 0 rfl rfl 6 (by decide) (hts _ (in_WS (h := 359) (by decide +kernel) rfl)) (fun _ h9 => h9) rfl (by decide +kernel) rfl rfl (Nat.le_of_ble_eq_true rfl) (show decode prog_10_method_1_code 54 = .ok (.putfield 30, 3) by decide +kernel) (fun H locs hP hD hS => ?_)
  have hP : va_P D vCl ((h0, .inr (8, [.ref q0, .ref q1, .ref q2, .ref q3, .ref q4, .ref q5, .int 0, .int 0, .int 0])) :: (q0, .inl (k 0, 60, .inl (fun _ => 0))) :: (q1, .inl (k 0, 60, .inl (fun _ => 0))) :: (q2, .inl (k 0, 60, .inl (fun _ => 0))) :: (q3, .inl (k 0, 60, .inl (fun _ => 0))) :: (q4, .inl (k 0, 60, .inl (fun _ => 0))) :: (q5, .inl (k 0, 60, .inl (fun _ => 0))) :: ([])) H := hP
  have hD : va_D A ((h0, .inr (8, [.ref q0, .ref q1, .ref q2, .ref q3, .ref q4, .ref q5, .int 0, .int 0, .int 0])) :: (q0, .inl (k 0, 60, .inl (fun _ => 0))) :: (q1, .inl (k 0, 60, .inl (fun _ => 0))) :: (q2, .inl (k 0, 60, .inl (fun _ => 0))) :: (q3, .inl (k 0, 60, .inl (fun _ => 0))) :: (q4, .inl (k 0, 60, .inl (fun _ => 0))) :: (q5, .inl (k 0, 60, .inl (fun _ => 0))) :: ([])) := hD
  refine W.eq (g2 := F0 m 57 ls []) rfl ?_
  refine lv_aload_n hx hb (show decode prog_10_method_1_code 57 = .ok (.aload_n 0, 1) by decide +kernel) rfl (lv_at hl 0 rfl) ?_
  refine lv_iconst (v := 0) hx hb (show decode prog_10_method_1_code 58 = .ok (.iconst 0, 1) by decide +kernel) (by decide +kernel) ?_
  refine va_put (D := D) (ci := 8) (v := .int 0) (ty := .int) (C := "FalseNotes$Years") (T := T_Years) (N := 9) hx hb hts (fun x hx2 => List.mem_cons_of_mem _ (cl_words ("FalseNotes$Years", T_Years, 9) (List.mem_of_getElem? (i := 8) rfl) x hx2)) (clTy 8) (cl_ty 8 (by decide) ("FalseNotes$Years", T_Years, 9) rfl) (cl_nm ("FalseNotes$Years", T_Years, 9) (List.mem_of_getElem? (i := 8) rfl)) hown hK.1 hP hD hS 0 rfl rfl 7 (by decide) (hts _ (in_WS (h := 361) (by decide +kernel) rfl)) (fun _ h9 => h9) rfl (by decide +kernel) rfl rfl (Nat.le_of_ble_eq_true rfl) (show decode prog_10_method_1_code 59 = .ok (.putfield 34, 3) by decide +kernel) (fun H locs hP hD hS => ?_)
  have hP : va_P D vCl ((h0, .inr (8, [.ref q0, .ref q1, .ref q2, .ref q3, .ref q4, .ref q5, .int 0, .int 0, .int 0])) :: (q0, .inl (k 0, 60, .inl (fun _ => 0))) :: (q1, .inl (k 0, 60, .inl (fun _ => 0))) :: (q2, .inl (k 0, 60, .inl (fun _ => 0))) :: (q3, .inl (k 0, 60, .inl (fun _ => 0))) :: (q4, .inl (k 0, 60, .inl (fun _ => 0))) :: (q5, .inl (k 0, 60, .inl (fun _ => 0))) :: ([])) H := hP
  have hD : va_D A ((h0, .inr (8, [.ref q0, .ref q1, .ref q2, .ref q3, .ref q4, .ref q5, .int 0, .int 0, .int 0])) :: (q0, .inl (k 0, 60, .inl (fun _ => 0))) :: (q1, .inl (k 0, 60, .inl (fun _ => 0))) :: (q2, .inl (k 0, 60, .inl (fun _ => 0))) :: (q3, .inl (k 0, 60, .inl (fun _ => 0))) :: (q4, .inl (k 0, 60, .inl (fun _ => 0))) :: (q5, .inl (k 0, 60, .inl (fun _ => 0))) :: ([])) := hD
  refine W.eq (g2 := F0 m 62 ls []) rfl ?_
  refine lv_aload_n hx hb (show decode prog_10_method_1_code 62 = .ok (.aload_n 0, 1) by decide +kernel) rfl (lv_at hl 0 rfl) ?_
  refine lv_iconst (v := 0) hx hb (show decode prog_10_method_1_code 63 = .ok (.iconst 0, 1) by decide +kernel) (by decide +kernel) ?_
  refine va_put (D := D) (ci := 8) (v := .int 0) (ty := .boolean) (C := "FalseNotes$Years") (T := T_Years) (N := 9) hx hb hts (fun x hx2 => List.mem_cons_of_mem _ (cl_words ("FalseNotes$Years", T_Years, 9) (List.mem_of_getElem? (i := 8) rfl) x hx2)) (clTy 8) (cl_ty 8 (by decide) ("FalseNotes$Years", T_Years, 9) rfl) (cl_nm ("FalseNotes$Years", T_Years, 9) (List.mem_of_getElem? (i := 8) rfl)) hown hK.1 hP hD hS 0 rfl rfl 8 (by decide) (hts _ (in_WS (h := 364) (by decide +kernel) rfl)) (fun _ h9 => h9) rfl (by decide +kernel) rfl rfl (Nat.le_of_ble_eq_true rfl) (show decode prog_10_method_1_code 64 = .ok (.putfield 37, 3) by decide +kernel) (fun H locs hP hD hS => ?_)
  have hP : va_P D vCl ((h0, .inr (8, [.ref q0, .ref q1, .ref q2, .ref q3, .ref q4, .ref q5, .int 0, .int 0, .int 0])) :: (q0, .inl (k 0, 60, .inl (fun _ => 0))) :: (q1, .inl (k 0, 60, .inl (fun _ => 0))) :: (q2, .inl (k 0, 60, .inl (fun _ => 0))) :: (q3, .inl (k 0, 60, .inl (fun _ => 0))) :: (q4, .inl (k 0, 60, .inl (fun _ => 0))) :: (q5, .inl (k 0, 60, .inl (fun _ => 0))) :: ([])) H := hP
  have hD : va_D A ((h0, .inr (8, [.ref q0, .ref q1, .ref q2, .ref q3, .ref q4, .ref q5, .int 0, .int 0, .int 0])) :: (q0, .inl (k 0, 60, .inl (fun _ => 0))) :: (q1, .inl (k 0, 60, .inl (fun _ => 0))) :: (q2, .inl (k 0, 60, .inl (fun _ => 0))) :: (q3, .inl (k 0, 60, .inl (fun _ => 0))) :: (q4, .inl (k 0, 60, .inl (fun _ => 0))) :: (q5, .inl (k 0, 60, .inl (fun _ => 0))) :: ([])) := hD
  refine W.eq (g2 := F0 m 67 ls []) rfl ?_
  exact W.vret hx hb hr (fun t ht hW => ⟨⟨fun j => [h0, q0, q1, q2, q3, q4, q5].getD j 0, rfl, rfl, by rw [ht]; exact hP, hD⟩, hS.F ht⟩) hS.2.2 (show decode prog_10_method_1_code 67 = .ok (.return_, 1) by decide +kernel)
def n_Ties : MI := (⟨"FalseNotes$Ties", "<init>", "()V"⟩, prog_6_method_1_code, 1, none, 0, 0, 4, [])
def wTies (k : Nat → ClassId) (a : Nat → Nat) : va_W := [(a 0, .inr (4, [.ref (a 1), .ref (a 2), .ref (a 3), .ref (a 4), .ref (a 5), .ref (a 6), .int 0, .int 0])), (a 1, .inl (k 0, 8, .inl (fun _ => 0))), (a 2, .inl (k 0, 8, .inl (fun _ => 0))), (a 3, .inl (k 0, 8, .inl (fun _ => 0))), (a 4, .inl (k 0, 8, .inl (fun _ => 0))), (a 5, .inl (k 0, 256, .inl (fun _ => 0))), (a 6, .inl (k 0, 256, .inl (fun _ => 0)))]
theorem f_Ties : ∀ j, j < 8 → defaultValue (clTy 4 j) = vp_V [.null, .null, .null, .null, .null, .null, .int 0, .int 0] j := by decide +kernel
set_option maxHeartbeats 4000000 in
set_option maxRecDepth 100000 in
theorem k_Ties (l : Launch) (D : va_G) (k : Nat → ClassId) : CK l D k n_Ties 1 6 544 4 [.null, .null, .null, .null, .null, .null, .int 0, .int 0] (fun a : Nat → Nat => a 0) (wTies k) := by
  intro h0 sz
  refine Met.ofW (cc := prog_6_method_1_code) (maxL := 1) (ret := none) (by decide) rfl ?_
  intro p e s m args below meth c s₁ B hml hv
  obtain ⟨rfl, hsz, hP, hK⟩ := hv
  have S : CallFix p m c prog_6_method_1_code 1 s _ (WS n_Ties) "FalseNotes$Ties" := ⟨B.exec, B.bytes, hml, findClass_of_methodNamed B.named, atoms_spec (ws := WS n_Ties) B.pre⟩
  have hx := S.1
  have hb := S.2.1
  have hown := S.2.2.2.1
  have hts := S.2.2.2.2
  have hr := B.returns
  have hlocks := B.notSynchronized
  have hin : meth.name = "<init>" := (name_of_methodNamed B.named B.method).1
  subst hsz
  have hD := (kd1 h0 (.inr (4, [.null, .null, .null, .null, .null, .null, .int 0, .int 0]))).self (sz := s.heap.size)
  generalize hAe : va_A [(h0, .inr (4, [.null, .null, .null, .null, .null, .null, .int 0, .int 0]))] s.heap.size = A at hD ⊢
  have hA : ∀ q : Nat, s.heap.size ≤ q → A q := fun q h => by rw [← hAe]; exact Or.inr h
  have hS : va_S A s.heap s.heap [] := va_S.rf
  have hl := lv_entry ([.ref h0]) (n := 1) (Nat.le_of_ble_eq_true rfl)
  rw [lg_entry_eq]
  generalize (lg_sl ([.ref h0]) ++ List.replicate (1 - (lg_sl ([.ref h0])).length) Slot.unset).toArray = ls at hl ⊢
  have hl : lv_has ls 1 [(0, .ref h0)] := hl
  refine lv_aload_n hx hb (show decode prog_6_method_1_code 0 = .ok (.aload_n 0, 1) by decide +kernel) rfl (lv_at hl 0 rfl) ?_
  refine W.objInit hx hb hown (hts _ (in_WS (h := 402) (by decide +kernel) rfl)) (hts _ (in_WS (h := 130) (by decide +kernel) rfl)) (hts _ (in_WS (h := 131) (by decide +kernel) rfl)) rfl (by rw [hml]; exact hl.1) rfl (show decode prog_6_method_1_code 1 = .ok (.invokespecial 3, 3) by decide +kernel) (Nat.le_of_ble_eq_true rfl) (Nat.le_of_ble_eq_true rfl) ?_
  refine W.eq (g2 := F0 m 4 ls []) rfl ?_
  refine lv_aload_n hx hb (show decode prog_6_method_1_code 4 = .ok (.aload_n 0, 1) by decide +kernel) rfl (lv_at hl 0 rfl) ?_
  refine lv_bipush (v := 8) hx hb (show decode prog_6_method_1_code 5 = .ok (.bipush 8, 2) by decide +kernel) (by decide +kernel) ?_
  refine kr_arrI (N := 8) S hK hP hD hS hA (by decide +kernel) (by decide +kernel) (by decide) (Nat.le_of_ble_eq_true rfl) (Nat.le_of_ble_eq_true rfl) (show decode prog_6_method_1_code 7 = .ok (.newarray .int, 2) by decide +kernel) (fun q0 H hP hD hS => ?_)
  have hP : va_P D vCl ((h0, .inr (4, [.null, .null, .null, .null, .null, .null, .int 0, .int 0])) :: (q0, .inl (k 0, 8, .inl (fun _ => 0))) :: ([])) H := hP
  have hD : va_D A ((h0, .inr (4, [.null, .null, .null, .null, .null, .null, .int 0, .int 0])) :: (q0, .inl (k 0, 8, .inl (fun _ => 0))) :: ([])) := hD
  refine va_putF (D := D) (ci := 4) (v := .ref q0) (ty := .array .int) (C := "FalseNotes$Ties") (T := T_Ties) (N := 8) hx hb hts (fun x hx2 => List.mem_cons_of_mem _ (cl_words ("FalseNotes$Ties", T_Ties, 8) (List.mem_of_getElem? (i := 4) rfl) x hx2)) (clTy 4) (cl_ty 4 (by decide) ("FalseNotes$Ties", T_Ties, 8) rfl) (cl_nm ("FalseNotes$Ties", T_Ties, 8) (List.mem_of_getElem? (i := 4) rfl)) hown hK.1 hP hD hS 0 rfl rfl 0 (by decide) (hts _ (in_WS (h := 403) (by decide +kernel) rfl)) (fun _ h9 => h9) rfl hin rfl (by decide +kernel) rfl rfl (Nat.le_of_ble_eq_true rfl) (show decode prog_6_method_1_code 9 = .ok (.putfield 9, 3) by decide +kernel) (fun H locs hP hD hS => ?_)
  have hP : va_P D vCl ((h0, .inr (4, [.ref q0, .null, .null, .null, .null, .null, .int 0, .int 0])) :: (q0, .inl (k 0, 8, .inl (fun _ => 0))) :: ([])) H := hP
  have hD : va_D A ((h0, .inr (4, [.ref q0, .null, .null, .null, .null, .null, .int 0, .int 0])) :: (q0, .inl (k 0, 8, .inl (fun _ => 0))) :: ([])) := hD
  refine W.eq (g2 := F0 m 12 ls []) rfl ?_
  refine lv_aload_n hx hb (show decode prog_6_method_1_code 12 = .ok (.aload_n 0, 1) by decide +kernel) rfl (lv_at hl 0 rfl) ?_
  refine lv_bipush (v := 8) hx hb (show decode prog_6_method_1_code 13 = .ok (.bipush 8, 2) by decide +kernel) (by decide +kernel) ?_
  refine kr_arrI (N := 8) S hK hP hD hS hA (by decide +kernel) (by decide +kernel) (by decide) (Nat.le_of_ble_eq_true rfl) (Nat.le_of_ble_eq_true rfl) (show decode prog_6_method_1_code 15 = .ok (.newarray .int, 2) by decide +kernel) (fun q1 H hP hD hS => ?_)
  have hP : va_P D vCl ((h0, .inr (4, [.ref q0, .null, .null, .null, .null, .null, .int 0, .int 0])) :: (q0, .inl (k 0, 8, .inl (fun _ => 0))) :: (q1, .inl (k 0, 8, .inl (fun _ => 0))) :: ([])) H := hP
  have hD : va_D A ((h0, .inr (4, [.ref q0, .null, .null, .null, .null, .null, .int 0, .int 0])) :: (q0, .inl (k 0, 8, .inl (fun _ => 0))) :: (q1, .inl (k 0, 8, .inl (fun _ => 0))) :: ([])) := hD
  refine va_putF (D := D) (ci := 4) (v := .ref q1) (ty := .array .int) (C := "FalseNotes$Ties") (T := T_Ties) (N := 8) hx hb hts (fun x hx2 => List.mem_cons_of_mem _ (cl_words ("FalseNotes$Ties", T_Ties, 8) (List.mem_of_getElem? (i := 4) rfl) x hx2)) (clTy 4) (cl_ty 4 (by decide) ("FalseNotes$Ties", T_Ties, 8) rfl) (cl_nm ("FalseNotes$Ties", T_Ties, 8) (List.mem_of_getElem? (i := 4) rfl)) hown hK.1 hP hD hS 0 rfl rfl 1 (by decide) (hts _ (in_WS (h := 404) (by decide +kernel) rfl)) (fun _ h9 => h9) rfl hin rfl (by decide +kernel) rfl rfl (Nat.le_of_ble_eq_true rfl) (show decode prog_6_method_1_code 17 = .ok (.putfield 15, 3) by decide +kernel) (fun H locs hP hD hS => ?_)
  have hP : va_P D vCl ((h0, .inr (4, [.ref q0, .ref q1, .null, .null, .null, .null, .int 0, .int 0])) :: (q0, .inl (k 0, 8, .inl (fun _ => 0))) :: (q1, .inl (k 0, 8, .inl (fun _ => 0))) :: ([])) H := hP
  have hD : va_D A ((h0, .inr (4, [.ref q0, .ref q1, .null, .null, .null, .null, .int 0, .int 0])) :: (q0, .inl (k 0, 8, .inl (fun _ => 0))) :: (q1, .inl (k 0, 8, .inl (fun _ => 0))) :: ([])) := hD
  refine W.eq (g2 := F0 m 20 ls []) rfl ?_
  refine lv_aload_n hx hb (show decode prog_6_method_1_code 20 = .ok (.aload_n 0, 1) by decide +kernel) rfl (lv_at hl 0 rfl) ?_
  refine lv_bipush (v := 8) hx hb (show decode prog_6_method_1_code 21 = .ok (.bipush 8, 2) by decide +kernel) (by decide +kernel) ?_
  refine kr_arrI (N := 8) S hK hP hD hS hA (by decide +kernel) (by decide +kernel) (by decide) (Nat.le_of_ble_eq_true rfl) (Nat.le_of_ble_eq_true rfl) (show decode prog_6_method_1_code 23 = .ok (.newarray .int, 2) by decide +kernel) (fun q2 H hP hD hS => ?_)
  have hP : va_P D vCl ((h0, .inr (4, [.ref q0, .ref q1, .null, .null, .null, .null, .int 0, .int 0])) :: (q0, .inl (k 0, 8, .inl (fun _ => 0))) :: (q1, .inl (k 0, 8, .inl (fun _ => 0))) :: (q2, .inl (k 0, 8, .inl (fun _ => 0))) :: ([])) H := hP
  have hD : va_D A ((h0, .inr (4, [.ref q0, .ref q1, .null, .null, .null, .null, .int 0, .int 0])) :: (q0, .inl (k 0, 8, .inl (fun _ => 0))) :: (q1, .inl (k 0, 8, .inl (fun _ => 0))) :: (q2, .inl (k 0, 8, .inl (fun _ => 0))) :: ([])) := hD
  refine va_putF (D := D) (ci := 4) (v := .ref q2) (ty := .array .int) (C := "FalseNotes$Ties") (T := T_Ties) (N := 8) hx hb hts (fun x hx2 => List.mem_cons_of_mem _ (cl_words ("FalseNotes$Ties", T_Ties, 8) (List.mem_of_getElem? (i := 4) rfl) x hx2)) (clTy 4) (cl_ty 4 (by decide) ("FalseNotes$Ties", T_Ties, 8) rfl) (cl_nm ("FalseNotes$Ties", T_Ties, 8) (List.mem_of_getElem? (i := 4) rfl)) hown hK.1 hP hD hS 0 rfl rfl 2 (by decide) (hts _ (in_WS (h := 405) (by decide +kernel) rfl)) (fun _ h9 => h9) rfl hin rfl (by decide +kernel) rfl rfl (Nat.le_of_ble_eq_true rfl) (show decode prog_6_method_1_code 25 = .ok (.putfield 18, 3) by decide +kernel) (fun H locs hP hD hS => ?_)
  have hP : va_P D vCl ((h0, .inr (4, [.ref q0, .ref q1, .ref q2, .null, .null, .null, .int 0, .int 0])) :: (q0, .inl (k 0, 8, .inl (fun _ => 0))) :: (q1, .inl (k 0, 8, .inl (fun _ => 0))) :: (q2, .inl (k 0, 8, .inl (fun _ => 0))) :: ([])) H := hP
  have hD : va_D A ((h0, .inr (4, [.ref q0, .ref q1, .ref q2, .null, .null, .null, .int 0, .int 0])) :: (q0, .inl (k 0, 8, .inl (fun _ => 0))) :: (q1, .inl (k 0, 8, .inl (fun _ => 0))) :: (q2, .inl (k 0, 8, .inl (fun _ => 0))) :: ([])) := hD
  refine W.eq (g2 := F0 m 28 ls []) rfl ?_
  refine lv_aload_n hx hb (show decode prog_6_method_1_code 28 = .ok (.aload_n 0, 1) by decide +kernel) rfl (lv_at hl 0 rfl) ?_
  refine lv_bipush (v := 8) hx hb (show decode prog_6_method_1_code 29 = .ok (.bipush 8, 2) by decide +kernel) (by decide +kernel) ?_
  refine kr_arrI (N := 8) S hK hP hD hS hA (by decide +kernel) (by decide +kernel) (by decide) (Nat.le_of_ble_eq_true rfl) (Nat.le_of_ble_eq_true rfl) (show decode prog_6_method_1_code 31 = .ok (.newarray .int, 2) by decide +kernel) (fun q3 H hP hD hS => ?_)
  have hP : va_P D vCl ((h0, .inr (4, [.ref q0, .ref q1, .ref q2, .null, .null, .null, .int 0, .int 0])) :: (q0, .inl (k 0, 8, .inl (fun _ => 0))) :: (q1, .inl (k 0, 8, .inl (fun _ => 0))) :: (q2, .inl (k 0, 8, .inl (fun _ => 0))) :: (q3, .inl (k 0, 8, .inl (fun _ => 0))) :: ([])) H := hP
  have hD : va_D A ((h0, .inr (4, [.ref q0, .ref q1, .ref q2, .null, .null, .null, .int 0, .int 0])) :: (q0, .inl (k 0, 8, .inl (fun _ => 0))) :: (q1, .inl (k 0, 8, .inl (fun _ => 0))) :: (q2, .inl (k 0, 8, .inl (fun _ => 0))) :: (q3, .inl (k 0, 8, .inl (fun _ => 0))) :: ([])) := hD
  refine va_putF (D := D) (ci := 4) (v := .ref q3) (ty := .array .int) (C := "FalseNotes$Ties") (T := T_Ties) (N := 8) hx hb hts (fun x hx2 => List.mem_cons_of_mem _ (cl_words ("FalseNotes$Ties", T_Ties, 8) (List.mem_of_getElem? (i := 4) rfl) x hx2)) (clTy 4) (cl_ty 4 (by decide) ("FalseNotes$Ties", T_Ties, 8) rfl) (cl_nm ("FalseNotes$Ties", T_Ties, 8) (List.mem_of_getElem? (i := 4) rfl)) hown hK.1 hP hD hS 0 rfl rfl 3 (by decide) (hts _ (in_WS (h := 406) (by decide +kernel) rfl)) (fun _ h9 => h9) rfl hin rfl (by decide +kernel) rfl rfl (Nat.le_of_ble_eq_true rfl) (show decode prog_6_method_1_code 33 = .ok (.putfield 21, 3) by decide +kernel) (fun H locs hP hD hS => ?_)
  have hP : va_P D vCl ((h0, .inr (4, [.ref q0, .ref q1, .ref q2, .ref q3, .null, .null, .int 0, .int 0])) :: (q0, .inl (k 0, 8, .inl (fun _ => 0))) :: (q1, .inl (k 0, 8, .inl (fun _ => 0))) :: (q2, .inl (k 0, 8, .inl (fun _ => 0))) :: (q3, .inl (k 0, 8, .inl (fun _ => 0))) :: ([])) H := hP
  have hD : va_D A ((h0, .inr (4, [.ref q0, .ref q1, .ref q2, .ref q3, .null, .null, .int 0, .int 0])) :: (q0, .inl (k 0, 8, .inl (fun _ => 0))) :: (q1, .inl (k 0, 8, .inl (fun _ => 0))) :: (q2, .inl (k 0, 8, .inl (fun _ => 0))) :: (q3, .inl (k 0, 8, .inl (fun _ => 0))) :: ([])) := hD
  refine W.eq (g2 := F0 m 36 ls []) rfl ?_
  refine lv_aload_n hx hb (show decode prog_6_method_1_code 36 = .ok (.aload_n 0, 1) by decide +kernel) rfl (lv_at hl 0 rfl) ?_
  refine lv_sipush (v := 256) hx hb (show decode prog_6_method_1_code 37 = .ok (.sipush 256, 3) by decide +kernel) (by decide +kernel) ?_
  refine kr_arrI (N := 256) S hK hP hD hS hA (by decide +kernel) (by decide +kernel) (by decide) (Nat.le_of_ble_eq_true rfl) (Nat.le_of_ble_eq_true rfl) (show decode prog_6_method_1_code 40 = .ok (.newarray .int, 2) by decide +kernel) (fun q4 H hP hD hS => ?_)
  have hP : va_P D vCl ((h0, .inr (4, [.ref q0, .ref q1, .ref q2, .ref q3, .null, .null, .int 0, .int 0])) :: (q0, .inl (k 0, 8, .inl (fun _ => 0))) :: (q1, .inl (k 0, 8, .inl (fun _ => 0))) :: (q2, .inl (k 0, 8, .inl (fun _ => 0))) :: (q3, .inl (k 0, 8, .inl (fun _ => 0))) :: (q4, .inl (k 0, 256, .inl (fun _ => 0))) :: ([])) H := hP
  have hD : va_D A ((h0, .inr (4, [.ref q0, .ref q1, .ref q2, .ref q3, .null, .null, .int 0, .int 0])) :: (q0, .inl (k 0, 8, .inl (fun _ => 0))) :: (q1, .inl (k 0, 8, .inl (fun _ => 0))) :: (q2, .inl (k 0, 8, .inl (fun _ => 0))) :: (q3, .inl (k 0, 8, .inl (fun _ => 0))) :: (q4, .inl (k 0, 256, .inl (fun _ => 0))) :: ([])) := hD
  refine va_putF (D := D) (ci := 4) (v := .ref q4) (ty := .array .int) (C := "FalseNotes$Ties") (T := T_Ties) (N := 8) hx hb hts (fun x hx2 => List.mem_cons_of_mem _ (cl_words ("FalseNotes$Ties", T_Ties, 8) (List.mem_of_getElem? (i := 4) rfl) x hx2)) (clTy 4) (cl_ty 4 (by decide) ("FalseNotes$Ties", T_Ties, 8) rfl) (cl_nm ("FalseNotes$Ties", T_Ties, 8) (List.mem_of_getElem? (i := 4) rfl)) hown hK.1 hP hD hS 0 rfl rfl 4 (by decide) (hts _ (in_WS (h := 408) (by decide +kernel) rfl)) (fun _ h9 => h9) rfl hin rfl (by decide +kernel) rfl rfl (Nat.le_of_ble_eq_true rfl) (show decode prog_6_method_1_code 42 = .ok (.putfield 24, 3) by decide +kernel) (fun H locs hP hD hS => ?_)
  have hP : va_P D vCl ((h0, .inr (4, [.ref q0, .ref q1, .ref q2, .ref q3, .ref q4, .null, .int 0, .int 0])) :: (q0, .inl (k 0, 8, .inl (fun _ => 0))) :: (q1, .inl (k 0, 8, .inl (fun _ => 0))) :: (q2, .inl (k 0, 8, .inl (fun _ => 0))) :: (q3, .inl (k 0, 8, .inl (fun _ => 0))) :: (q4, .inl (k 0, 256, .inl (fun _ => 0))) :: ([])) H := hP
  have hD : va_D A ((h0, .inr (4, [.ref q0, .ref q1, .ref q2, .ref q3, .ref q4, .null, .int 0, .int 0])) :: (q0, .inl (k 0, 8, .inl (fun _ => 0))) :: (q1, .inl (k 0, 8, .inl (fun _ => 0))) :: (q2, .inl (k 0, 8, .inl (fun _ => 0))) :: (q3, .inl (k 0, 8, .inl (fun _ => 0))) :: (q4, .inl (k 0, 256, .inl (fun _ => 0))) :: ([])) := hD
  refine W.eq (g2 := F0 m 45 ls []) rfl ?_
  refine lv_aload_n hx hb (show decode prog_6_method_1_code 45 = .ok (.aload_n 0, 1) by decide +kernel) rfl (lv_at hl 0 rfl) ?_
  refine lv_sipush (v := 256) hx hb (show decode prog_6_method_1_code 46 = .ok (.sipush 256, 3) by decide +kernel) (by decide +kernel) ?_
  refine kr_arrI (N := 256) S hK hP hD hS hA (by decide +kernel) (by decide +kernel) (by decide) (Nat.le_of_ble_eq_true rfl) (Nat.le_of_ble_eq_true rfl) (show decode prog_6_method_1_code 49 = .ok (.newarray .int, 2) by decide +kernel) (fun q5 H hP hD hS => ?_)
  have hP : va_P D vCl ((h0, .inr (4, [.ref q0, .ref q1, .ref q2, .ref q3, .ref q4, .null, .int 0, .int 0])) :: (q0, .inl (k 0, 8, .inl (fun _ => 0))) :: (q1, .inl (k 0, 8, .inl (fun _ => 0))) :: (q2, .inl (k 0, 8, .inl (fun _ => 0))) :: (q3, .inl (k 0, 8, .inl (fun _ => 0))) :: (q4, .inl (k 0, 256, .inl (fun _ => 0))) :: (q5, .inl (k 0, 256, .inl (fun _ => 0))) :: ([])) H := hP
  have hD : va_D A ((h0, .inr (4, [.ref q0, .ref q1, .ref q2, .ref q3, .ref q4, .null, .int 0, .int 0])) :: (q0, .inl (k 0, 8, .inl (fun _ => 0))) :: (q1, .inl (k 0, 8, .inl (fun _ => 0))) :: (q2, .inl (k 0, 8, .inl (fun _ => 0))) :: (q3, .inl (k 0, 8, .inl (fun _ => 0))) :: (q4, .inl (k 0, 256, .inl (fun _ => 0))) :: (q5, .inl (k 0, 256, .inl (fun _ => 0))) :: ([])) := hD
  refine va_putF (D := D) (ci := 4) (v := .ref q5) (ty := .array .int) (C := "FalseNotes$Ties") (T := T_Ties) (N := 8) hx hb hts (fun x hx2 => List.mem_cons_of_mem _ (cl_words ("FalseNotes$Ties", T_Ties, 8) (List.mem_of_getElem? (i := 4) rfl) x hx2)) (clTy 4) (cl_ty 4 (by decide) ("FalseNotes$Ties", T_Ties, 8) rfl) (cl_nm ("FalseNotes$Ties", T_Ties, 8) (List.mem_of_getElem? (i := 4) rfl)) hown hK.1 hP hD hS 0 rfl rfl 5 (by decide) (hts _ (in_WS (h := 409) (by decide +kernel) rfl)) (fun _ h9 => h9) rfl hin rfl (by decide +kernel) rfl rfl (Nat.le_of_ble_eq_true rfl) (show decode prog_6_method_1_code 51 = .ok (.putfield 27, 3) by decide +kernel) (fun H locs hP hD hS => ?_)
  have hP : va_P D vCl ((h0, .inr (4, [.ref q0, .ref q1, .ref q2, .ref q3, .ref q4, .ref q5, .int 0, .int 0])) :: (q0, .inl (k 0, 8, .inl (fun _ => 0))) :: (q1, .inl (k 0, 8, .inl (fun _ => 0))) :: (q2, .inl (k 0, 8, .inl (fun _ => 0))) :: (q3, .inl (k 0, 8, .inl (fun _ => 0))) :: (q4, .inl (k 0, 256, .inl (fun _ => 0))) :: (q5, .inl (k 0, 256, .inl (fun _ => 0))) :: ([])) H := hP
  have hD : va_D A ((h0, .inr (4, [.ref q0, .ref q1, .ref q2, .ref q3, .ref q4, .ref q5, .int 0, .int 0])) :: (q0, .inl (k 0, 8, .inl (fun _ => 0))) :: (q1, .inl (k 0, 8, .inl (fun _ => 0))) :: (q2, .inl (k 0, 8, .inl (fun _ => 0))) :: (q3, .inl (k 0, 8, .inl (fun _ => 0))) :: (q4, .inl (k 0, 256, .inl (fun _ => 0))) :: (q5, .inl (k 0, 256, .inl (fun _ => 0))) :: ([])) := hD
  refine W.eq (g2 := F0 m 54 ls []) rfl ?_
  refine lv_aload_n hx hb (show decode prog_6_method_1_code 54 = .ok (.aload_n 0, 1) by decide +kernel) rfl (lv_at hl 0 rfl) ?_
  refine lv_iconst (v := 0) hx hb (show decode prog_6_method_1_code 55 = .ok (.iconst 0, 1) by decide +kernel) (by decide +kernel) ?_
  refine va_put (D := D) (ci := 4) (v := .int 0) (ty := .int) (C := "FalseNotes$Ties") (T := T_Ties) (N := 8) hx hb hts (fun x hx2 => List.mem_cons_of_mem _ (cl_words ("FalseNotes$Ties", T_Ties, 8) (List.mem_of_getElem? (i := 4) rfl) x hx2)) (clTy 4) (cl_ty 4 (by decide) ("FalseNotes$Ties", T_Ties, 8) rfl) (cl_nm ("FalseNotes$Ties", T_Ties, 8) (List.mem_of_getElem? (i := 4) rfl)) hown hK.1 hP hD hS 0 rfl rfl 6 (by decide) (hts _ (in_WS (h := 410) (by decide +kernel) rfl)) (fun _ h9 => h9) rfl (by decide +kernel) rfl rfl (Nat.le_of_ble_eq_true rfl) (show decode prog_6_method_1_code 56 = .ok (.putfield 30, 3) by decide +kernel) (fun H locs hP hD hS => ?_)
  have hP : va_P D vCl ((h0, .inr (4, [.ref q0, .ref q1, .ref q2, .ref q3, .ref q4, .ref q5, .int 0, .int 0])) :: (q0, .inl (k 0, 8, .inl (fun _ => 0))) :: (q1, .inl (k 0, 8, .inl (fun _ => 0))) :: (q2, .inl (k 0, 8, .inl (fun _ => 0))) :: (q3, .inl (k 0, 8, .inl (fun _ => 0))) :: (q4, .inl (k 0, 256, .inl (fun _ => 0))) :: (q5, .inl (k 0, 256, .inl (fun _ => 0))) :: ([])) H := hP
  have hD : va_D A ((h0, .inr (4, [.ref q0, .ref q1, .ref q2, .ref q3, .ref q4, .ref q5, .int 0, .int 0])) :: (q0, .inl (k 0, 8, .inl (fun _ => 0))) :: (q1, .inl (k 0, 8, .inl (fun _ => 0))) :: (q2, .inl (k 0, 8, .inl (fun _ => 0))) :: (q3, .inl (k 0, 8, .inl (fun _ => 0))) :: (q4, .inl (k 0, 256, .inl (fun _ => 0))) :: (q5, .inl (k 0, 256, .inl (fun _ => 0))) :: ([])) := hD
  refine W.eq (g2 := F0 m 59 ls []) rfl ?_
  refine lv_aload_n hx hb (show decode prog_6_method_1_code 59 = .ok (.aload_n 0, 1) by decide +kernel) rfl (lv_at hl 0 rfl) ?_
  refine lv_iconst (v := 0) hx hb (show decode prog_6_method_1_code 60 = .ok (.iconst 0, 1) by decide +kernel) (by decide +kernel) ?_
  refine va_put (D := D) (ci := 4) (v := .int 0) (ty := .int) (C := "FalseNotes$Ties") (T := T_Ties) (N := 8) hx hb hts (fun x hx2 => List.mem_cons_of_mem _ (cl_words ("FalseNotes$Ties", T_Ties, 8) (List.mem_of_getElem? (i := 4) rfl) x hx2)) (clTy 4) (cl_ty 4 (by decide) ("FalseNotes$Ties", T_Ties, 8) rfl) (cl_nm ("FalseNotes$Ties", T_Ties, 8) (List.mem_of_getElem? (i := 4) rfl)) hown hK.1 hP hD hS 0 rfl rfl 7 (by decide) (hts _ (in_WS (h := 411) (by decide +kernel) rfl)) (fun _ h9 => h9) rfl (by decide +kernel) rfl rfl (Nat.le_of_ble_eq_true rfl) (show decode prog_6_method_1_code 61 = .ok (.putfield 34, 3) by decide +kernel) (fun H locs hP hD hS => ?_)
  have hP : va_P D vCl ((h0, .inr (4, [.ref q0, .ref q1, .ref q2, .ref q3, .ref q4, .ref q5, .int 0, .int 0])) :: (q0, .inl (k 0, 8, .inl (fun _ => 0))) :: (q1, .inl (k 0, 8, .inl (fun _ => 0))) :: (q2, .inl (k 0, 8, .inl (fun _ => 0))) :: (q3, .inl (k 0, 8, .inl (fun _ => 0))) :: (q4, .inl (k 0, 256, .inl (fun _ => 0))) :: (q5, .inl (k 0, 256, .inl (fun _ => 0))) :: ([])) H := hP
  have hD : va_D A ((h0, .inr (4, [.ref q0, .ref q1, .ref q2, .ref q3, .ref q4, .ref q5, .int 0, .int 0])) :: (q0, .inl (k 0, 8, .inl (fun _ => 0))) :: (q1, .inl (k 0, 8, .inl (fun _ => 0))) :: (q2, .inl (k 0, 8, .inl (fun _ => 0))) :: (q3, .inl (k 0, 8, .inl (fun _ => 0))) :: (q4, .inl (k 0, 256, .inl (fun _ => 0))) :: (q5, .inl (k 0, 256, .inl (fun _ => 0))) :: ([])) := hD
  refine W.eq (g2 := F0 m 64 ls []) rfl ?_
  exact W.vret hx hb hr (fun t ht hW => ⟨⟨fun j => [h0, q0, q1, q2, q3, q4, q5].getD j 0, rfl, rfl, by rw [ht]; exact hP, hD⟩, hS.F ht⟩) hS.2.2 (show decode prog_6_method_1_code 64 = .ok (.return_, 1) by decide +kernel)
def n_Life : MI := (⟨"FalseNotes$Life", "<init>", "()V"⟩, prog_4_method_1_code, 1, none, 0, 0, 2, [])
def wLife (k : Nat → ClassId) (a : Nat → Nat) : va_W := [(a 0, .inr (2, [.ref (a 1), .int 0, .int 0, .int 0, .int 0, .int 0, .int 0, .int 0, .int 0])), (a 1, .inl (k 0, 60, .inl (fun _ => 0)))]
theorem f_Life : ∀ j, j < 9 → defaultValue (clTy 2 j) = vp_V [.null, .int 0, .int 0, .int 0, .int 0, .int 0, .int 0, .int 0, .int 0] j := by decide +kernel
set_option maxHeartbeats 4000000 in
set_option maxRecDepth 100000 in
theorem k_Life (l : Launch) (D : va_G) (k : Nat → ClassId) : CK l D k n_Life 1 1 60 2 [.null, .int 0, .int 0, .int 0, .int 0, .int 0, .int 0, .int 0, .int 0] (fun a : Nat → Nat => a 0) (wLife k) := by
  intro h0 sz
  refine Met.ofW (cc := prog_4_method_1_code) (maxL := 1) (ret := none) (by decide) rfl ?_
  intro p e s m args below meth c s₁ B hml hv
  obtain ⟨rfl, hsz, hP, hK⟩ := hv
  have S : CallFix p m c prog_4_method_1_code 1 s _ (WS n_Life) "FalseNotes$Life" := ⟨B.exec, B.bytes, hml, findClass_of_methodNamed B.named, atoms_spec (ws := WS n_Life) B.pre⟩
  have hx := S.1
  have hb := S.2.1
  have hown := S.2.2.2.1
  have hts := S.2.2.2.2
  have hr := B.returns
  have hlocks := B.notSynchronized
  have hin : meth.name = "<init>" := (name_of_methodNamed B.named B.method).1
  subst hsz
  have hD := (kd1 h0 (.inr (2, [.null, .int 0, .int 0, .int 0, .int 0, .int 0, .int 0, .int 0, .int 0]))).self (sz := s.heap.size)
  generalize hAe : va_A [(h0, .inr (2, [.null, .int 0, .int 0, .int 0, .int 0, .int 0, .int 0, .int 0, .int 0]))] s.heap.size = A at hD ⊢
  have hA : ∀ q : Nat, s.heap.size ≤ q → A q := fun q h => by rw [← hAe]; exact Or.inr h
  have hS : va_S A s.heap s.heap [] := va_S.rf
  have hl := lv_entry ([.ref h0]) (n := 1) (Nat.le_of_ble_eq_true rfl)
  rw [lg_entry_eq]
  generalize (lg_sl ([.ref h0]) ++ List.replicate (1 - (lg_sl ([.ref h0])).length) Slot.unset).toArray = ls at hl ⊢
  have hl : lv_has ls 1 [(0, .ref h0)] := hl
  refine lv_aload_n hx hb (show decode prog_4_method_1_code 0 = .ok (.aload_n 0, 1) by decide +kernel) rfl (lv_at hl 0 rfl) ?_
  refine W.objInit hx hb hown (hts _ (in_WS (h := 434) (by decide +kernel) rfl)) (hts _ (in_WS (h := 130) (by decide +kernel) rfl)) (hts _ (in_WS (h := 131) (by decide +kernel) rfl)) rfl (by rw [hml]; exact hl.1) rfl (show decode prog_4_method_1_code 1 = .ok (.invokespecial 3, 3) by decide +kernel) (Nat.le_of_ble_eq_true rfl) (Nat.le_of_ble_eq_true rfl) ?_
  refine W.eq (g2 := F0 m 4 ls []) rfl ?_
  refine lv_aload_n hx hb (show decode prog_4_method_1_code 4 = .ok (.aload_n 0, 1) by decide +kernel) rfl (lv_at hl 0 rfl) ?_
  refine lv_bipush (v := 60) hx hb (show decode prog_4_method_1_code 5 = .ok (.bipush 60, 2) by decide +kernel) (by decide +kernel) ?_
  refine kr_arrI (N := 60) S hK hP hD hS hA (by decide +kernel) (by decide +kernel) (by decide) (Nat.le_of_ble_eq_true rfl) (Nat.le_of_ble_eq_true rfl) (show decode prog_4_method_1_code 7 = .ok (.newarray .int, 2) by decide +kernel) (fun q0 H hP hD hS => ?_)
  have hP : va_P D vCl ((h0, .inr (2, [.null, .int 0, .int 0, .int 0, .int 0, .int 0, .int 0, .int 0, .int 0])) :: (q0, .inl (k 0, 60, .inl (fun _ => 0))) :: ([])) H := hP
  have hD : va_D A ((h0, .inr (2, [.null, .int 0, .int 0, .int 0, .int 0, .int 0, .int 0, .int 0, .int 0])) :: (q0, .inl (k 0, 60, .inl (fun _ => 0))) :: ([])) := hD
  refine va_putF (D := D) (ci := 2) (v := .ref q0) (ty := .array .int) (C := "FalseNotes$Life") (T := T_Life) (N := 9) hx hb hts (fun x hx2 => List.mem_cons_of_mem _ (cl_words ("FalseNotes$Life", T_Life, 9) (List.mem_of_getElem? (i := 2) rfl) x hx2)) (clTy 2) (cl_ty 2 (by decide) ("FalseNotes$Life", T_Life, 9) rfl) (cl_nm ("FalseNotes$Life", T_Life, 9) (List.mem_of_getElem? (i := 2) rfl)) hown hK.1 hP hD hS 0 rfl rfl 0 (by decide) (hts _ (in_WS (h := 435) (by decide +kernel) rfl)) (fun _ h9 => h9) rfl hin rfl (by decide +kernel) rfl rfl (Nat.le_of_ble_eq_true rfl) (show decode prog_4_method_1_code 9 = .ok (.putfield 11, 3) by decide +kernel) (fun H locs hP hD hS => ?_)
  have hP : va_P D vCl ((h0, .inr (2, [.ref q0, .int 0, .int 0, .int 0, .int 0, .int 0, .int 0, .int 0, .int 0])) :: (q0, .inl (k 0, 60, .inl (fun _ => 0))) :: ([])) H := hP
  have hD : va_D A ((h0, .inr (2, [.ref q0, .int 0, .int 0, .int 0, .int 0, .int 0, .int 0, .int 0, .int 0])) :: (q0, .inl (k 0, 60, .inl (fun _ => 0))) :: ([])) := hD
  refine W.eq (g2 := F0 m 12 ls []) rfl ?_
  refine lv_aload_n hx hb (show decode prog_4_method_1_code 12 = .ok (.aload_n 0, 1) by decide +kernel) rfl (lv_at hl 0 rfl) ?_
  refine lv_iconst (v := 0) hx hb (show decode prog_4_method_1_code 13 = .ok (.iconst 0, 1) by decide +kernel) (by decide +kernel) ?_
  refine va_put (D := D) (ci := 2) (v := .int 0) (ty := .boolean) (C := "FalseNotes$Life") (T := T_Life) (N := 9) hx hb hts (fun x hx2 => List.mem_cons_of_mem _ (cl_words ("FalseNotes$Life", T_Life, 9) (List.mem_of_getElem? (i := 2) rfl) x hx2)) (clTy 2) (cl_ty 2 (by decide) ("FalseNotes$Life", T_Life, 9) rfl) (cl_nm ("FalseNotes$Life", T_Life, 9) (List.mem_of_getElem? (i := 2) rfl)) hown hK.1 hP hD hS 0 rfl rfl 1 (by decide) (hts _ (in_WS (h := 436) (by decide +kernel) rfl)) (fun _ h9 => h9) rfl (by decide +kernel) rfl rfl (Nat.le_of_ble_eq_true rfl) (show decode prog_4_method_1_code 14 = .ok (.putfield 17, 3) by decide +kernel) (fun H locs hP hD hS => ?_)
  have hP : va_P D vCl ((h0, .inr (2, [.ref q0, .int 0, .int 0, .int 0, .int 0, .int 0, .int 0, .int 0, .int 0])) :: (q0, .inl (k 0, 60, .inl (fun _ => 0))) :: ([])) H := hP
  have hD : va_D A ((h0, .inr (2, [.ref q0, .int 0, .int 0, .int 0, .int 0, .int 0, .int 0, .int 0, .int 0])) :: (q0, .inl (k 0, 60, .inl (fun _ => 0))) :: ([])) := hD
  refine W.eq (g2 := F0 m 17 ls []) rfl ?_
  refine lv_aload_n hx hb (show decode prog_4_method_1_code 17 = .ok (.aload_n 0, 1) by decide +kernel) rfl (lv_at hl 0 rfl) ?_
  refine lv_iconst (v := 0) hx hb (show decode prog_4_method_1_code 18 = .ok (.iconst 0, 1) by decide +kernel) (by decide +kernel) ?_
  refine va_put (D := D) (ci := 2) (v := .int 0) (ty := .int) (C := "FalseNotes$Life") (T := T_Life) (N := 9) hx hb hts (fun x hx2 => List.mem_cons_of_mem _ (cl_words ("FalseNotes$Life", T_Life, 9) (List.mem_of_getElem? (i := 2) rfl) x hx2)) (clTy 2) (cl_ty 2 (by decide) ("FalseNotes$Life", T_Life, 9) rfl) (cl_nm ("FalseNotes$Life", T_Life, 9) (List.mem_of_getElem? (i := 2) rfl)) hown hK.1 hP hD hS 0 rfl rfl 2 (by decide) (hts _ (in_WS (h := 438) (by decide +kernel) rfl)) (fun _ h9 => h9) rfl (by decide +kernel) rfl rfl (Nat.le_of_ble_eq_true rfl) (show decode prog_4_method_1_code 19 = .ok (.putfield 21, 3) by decide +kernel) (fun H locs hP hD hS => ?_)
  have hP : va_P D vCl ((h0, .inr (2, [.ref q0, .int 0, .int 0, .int 0, .int 0, .int 0, .int 0, .int 0, .int 0])) :: (q0, .inl (k 0, 60, .inl (fun _ => 0))) :: ([])) H := hP
  have hD : va_D A ((h0, .inr (2, [.ref q0, .int 0, .int 0, .int 0, .int 0, .int 0, .int 0, .int 0, .int 0])) :: (q0, .inl (k 0, 60, .inl (fun _ => 0))) :: ([])) := hD
  refine W.eq (g2 := F0 m 22 ls []) rfl ?_
  refine lv_aload_n hx hb (show decode prog_4_method_1_code 22 = .ok (.aload_n 0, 1) by decide +kernel) rfl (lv_at hl 0 rfl) ?_
  refine lv_iconst (v := 0) hx hb (show decode prog_4_method_1_code 23 = .ok (.iconst 0, 1) by decide +kernel) (by decide +kernel) ?_
  refine va_put (D := D) (ci := 2) (v := .int 0) (ty := .int) (C := "FalseNotes$Life") (T := T_Life) (N := 9) hx hb hts (fun x hx2 => List.mem_cons_of_mem _ (cl_words ("FalseNotes$Life", T_Life, 9) (List.mem_of_getElem? (i := 2) rfl) x hx2)) (clTy 2) (cl_ty 2 (by decide) ("FalseNotes$Life", T_Life, 9) rfl) (cl_nm ("FalseNotes$Life", T_Life, 9) (List.mem_of_getElem? (i := 2) rfl)) hown hK.1 hP hD hS 0 rfl rfl 3 (by decide) (hts _ (in_WS (h := 440) (by decide +kernel) rfl)) (fun _ h9 => h9) rfl (by decide +kernel) rfl rfl (Nat.le_of_ble_eq_true rfl) (show decode prog_4_method_1_code 24 = .ok (.putfield 25, 3) by decide +kernel) (fun H locs hP hD hS => ?_)
  have hP : va_P D vCl ((h0, .inr (2, [.ref q0, .int 0, .int 0, .int 0, .int 0, .int 0, .int 0, .int 0, .int 0])) :: (q0, .inl (k 0, 60, .inl (fun _ => 0))) :: ([])) H := hP
  have hD : va_D A ((h0, .inr (2, [.ref q0, .int 0, .int 0, .int 0, .int 0, .int 0, .int 0, .int 0, .int 0])) :: (q0, .inl (k 0, 60, .inl (fun _ => 0))) :: ([])) := hD
  refine W.eq (g2 := F0 m 27 ls []) rfl ?_
  refine lv_aload_n hx hb (show decode prog_4_method_1_code 27 = .ok (.aload_n 0, 1) by decide +kernel) rfl (lv_at hl 0 rfl) ?_
  refine lv_iconst (v := 0) hx hb (show decode prog_4_method_1_code 28 = .ok (.iconst 0, 1) by decide +kernel) (by decide +kernel) ?_
  refine va_put (D := D) (ci := 2) (v := .int 0) (ty := .int) (C := "FalseNotes$Life") (T := T_Life) (N := 9) hx hb hts (fun x hx2 => List.mem_cons_of_mem _ (cl_words ("FalseNotes$Life", T_Life, 9) (List.mem_of_getElem? (i := 2) rfl) x hx2)) (clTy 2) (cl_ty 2 (by decide) ("FalseNotes$Life", T_Life, 9) rfl) (cl_nm ("FalseNotes$Life", T_Life, 9) (List.mem_of_getElem? (i := 2) rfl)) hown hK.1 hP hD hS 0 rfl rfl 4 (by decide) (hts _ (in_WS (h := 442) (by decide +kernel) rfl)) (fun _ h9 => h9) rfl (by decide +kernel) rfl rfl (Nat.le_of_ble_eq_true rfl) (show decode prog_4_method_1_code 29 = .ok (.putfield 28, 3) by decide +kernel) (fun H locs hP hD hS => ?_)
  have hP : va_P D vCl ((h0, .inr (2, [.ref q0, .int 0, .int 0, .int 0, .int 0, .int 0, .int 0, .int 0, .int 0])) :: (q0, .inl (k 0, 60, .inl (fun _ => 0))) :: ([])) H := hP
  have hD : va_D A ((h0, .inr (2, [.ref q0, .int 0, .int 0, .int 0, .int 0, .int 0, .int 0, .int 0, .int 0])) :: (q0, .inl (k 0, 60, .inl (fun _ => 0))) :: ([])) := hD
  refine W.eq (g2 := F0 m 32 ls []) rfl ?_
  refine lv_aload_n hx hb (show decode prog_4_method_1_code 32 = .ok (.aload_n 0, 1) by decide +kernel) rfl (lv_at hl 0 rfl) ?_
  refine lv_iconst (v := 0) hx hb (show decode prog_4_method_1_code 33 = .ok (.iconst 0, 1) by decide +kernel) (by decide +kernel) ?_
  refine va_put (D := D) (ci := 2) (v := .int 0) (ty := .int) (C := "FalseNotes$Life") (T := T_Life) (N := 9) hx hb hts (fun x hx2 => List.mem_cons_of_mem _ (cl_words ("FalseNotes$Life", T_Life, 9) (List.mem_of_getElem? (i := 2) rfl) x hx2)) (clTy 2) (cl_ty 2 (by decide) ("FalseNotes$Life", T_Life, 9) rfl) (cl_nm ("FalseNotes$Life", T_Life, 9) (List.mem_of_getElem? (i := 2) rfl)) hown hK.1 hP hD hS 0 rfl rfl 5 (by decide) (hts _ (in_WS (h := 444) (by decide +kernel) rfl)) (fun _ h9 => h9) rfl (by decide +kernel) rfl rfl (Nat.le_of_ble_eq_true rfl) (show decode prog_4_method_1_code 34 = .ok (.putfield 31, 3) by decide +kernel) (fun H locs hP hD hS => ?_)
  have hP : va_P D vCl ((h0, .inr (2, [.ref q0, .int 0, .int 0, .int 0, .int 0, .int 0, .int 0, .int 0, .int 0])) :: (q0, .inl (k 0, 60, .inl (fun _ => 0))) :: ([])) H := hP
  have hD : va_D A ((h0, .inr (2, [.ref q0, .int 0, .int 0, .int 0, .int 0, .int 0, .int 0, .int 0, .int 0])) :: (q0, .inl (k 0, 60, .inl (fun _ => 0))) :: ([])) := hD
  refine W.eq (g2 := F0 m 37 ls []) rfl ?_
  refine lv_aload_n hx hb (show decode prog_4_method_1_code 37 = .ok (.aload_n 0, 1) by decide +kernel) rfl (lv_at hl 0 rfl) ?_
  refine lv_iconst (v := 0) hx hb (show decode prog_4_method_1_code 38 = .ok (.iconst 0, 1) by decide +kernel) (by decide +kernel) ?_
  refine va_put (D := D) (ci := 2) (v := .int 0) (ty := .int) (C := "FalseNotes$Life") (T := T_Life) (N := 9) hx hb hts (fun x hx2 => List.mem_cons_of_mem _ (cl_words ("FalseNotes$Life", T_Life, 9) (List.mem_of_getElem? (i := 2) rfl) x hx2)) (clTy 2) (cl_ty 2 (by decide) ("FalseNotes$Life", T_Life, 9) rfl) (cl_nm ("FalseNotes$Life", T_Life, 9) (List.mem_of_getElem? (i := 2) rfl)) hown hK.1 hP hD hS 0 rfl rfl 6 (by decide) (hts _ (in_WS (h := 446) (by decide +kernel) rfl)) (fun _ h9 => h9) rfl (by decide +kernel) rfl rfl (Nat.le_of_ble_eq_true rfl) (show decode prog_4_method_1_code 39 = .ok (.putfield 34, 3) by decide +kernel) (fun H locs hP hD hS => ?_)
  have hP : va_P D vCl ((h0, .inr (2, [.ref q0, .int 0, .int 0, .int 0, .int 0, .int 0, .int 0, .int 0, .int 0])) :: (q0, .inl (k 0, 60, .inl (fun _ => 0))) :: ([])) H := hP
  have hD : va_D A ((h0, .inr (2, [.ref q0, .int 0, .int 0, .int 0, .int 0, .int 0, .int 0, .int 0, .int 0])) :: (q0, .inl (k 0, 60, .inl (fun _ => 0))) :: ([])) := hD
  refine W.eq (g2 := F0 m 42 ls []) rfl ?_
  refine lv_aload_n hx hb (show decode prog_4_method_1_code 42 = .ok (.aload_n 0, 1) by decide +kernel) rfl (lv_at hl 0 rfl) ?_
  refine lv_iconst (v := 0) hx hb (show decode prog_4_method_1_code 43 = .ok (.iconst 0, 1) by decide +kernel) (by decide +kernel) ?_
  refine va_put (D := D) (ci := 2) (v := .int 0) (ty := .int) (C := "FalseNotes$Life") (T := T_Life) (N := 9) hx hb hts (fun x hx2 => List.mem_cons_of_mem _ (cl_words ("FalseNotes$Life", T_Life, 9) (List.mem_of_getElem? (i := 2) rfl) x hx2)) (clTy 2) (cl_ty 2 (by decide) ("FalseNotes$Life", T_Life, 9) rfl) (cl_nm ("FalseNotes$Life", T_Life, 9) (List.mem_of_getElem? (i := 2) rfl)) hown hK.1 hP hD hS 0 rfl rfl 7 (by decide) (hts _ (in_WS (h := 448) (by decide +kernel) rfl)) (fun _ h9 => h9) rfl (by decide +kernel) rfl rfl (Nat.le_of_ble_eq_true rfl) (show decode prog_4_method_1_code 44 = .ok (.putfield 37, 3) by decide +kernel) (fun H locs hP hD hS => ?_)
  have hP : va_P D vCl ((h0, .inr (2, [.ref q0, .int 0, .int 0, .int 0, .int 0, .int 0, .int 0, .int 0, .int 0])) :: (q0, .inl (k 0, 60, .inl (fun _ => 0))) :: ([])) H := hP
  have hD : va_D A ((h0, .inr (2, [.ref q0, .int 0, .int 0, .int 0, .int 0, .int 0, .int 0, .int 0, .int 0])) :: (q0, .inl (k 0, 60, .inl (fun _ => 0))) :: ([])) := hD
  refine W.eq (g2 := F0 m 47 ls []) rfl ?_
  refine lv_aload_n hx hb (show decode prog_4_method_1_code 47 = .ok (.aload_n 0, 1) by decide +kernel) rfl (lv_at hl 0 rfl) ?_
  refine lv_iconst (v := 0) hx hb (show decode prog_4_method_1_code 48 = .ok (.iconst 0, 1) by decide +kernel) (by decide +kernel) ?_
  refine va_put (D := D) (ci := 2) (v := .int 0) (ty := .int) (C := "FalseNotes$Life") (T := T_Life) (N := 9) hx hb hts (fun x hx2 => List.mem_cons_of_mem _ (cl_words ("FalseNotes$Life", T_Life, 9) (List.mem_of_getElem? (i := 2) rfl) x hx2)) (clTy 2) (cl_ty 2 (by decide) ("FalseNotes$Life", T_Life, 9) rfl) (cl_nm ("FalseNotes$Life", T_Life, 9) (List.mem_of_getElem? (i := 2) rfl)) hown hK.1 hP hD hS 0 rfl rfl 8 (by decide) (hts _ (in_WS (h := 450) (by decide +kernel) rfl)) (fun _ h9 => h9) rfl (by decide +kernel) rfl rfl (Nat.le_of_ble_eq_true rfl) (show decode prog_4_method_1_code 49 = .ok (.putfield 40, 3) by decide +kernel) (fun H locs hP hD hS => ?_)
  have hP : va_P D vCl ((h0, .inr (2, [.ref q0, .int 0, .int 0, .int 0, .int 0, .int 0, .int 0, .int 0, .int 0])) :: (q0, .inl (k 0, 60, .inl (fun _ => 0))) :: ([])) H := hP
  have hD : va_D A ((h0, .inr (2, [.ref q0, .int 0, .int 0, .int 0, .int 0, .int 0, .int 0, .int 0, .int 0])) :: (q0, .inl (k 0, 60, .inl (fun _ => 0))) :: ([])) := hD
  refine W.eq (g2 := F0 m 52 ls []) rfl ?_
  exact W.vret hx hb hr (fun t ht hW => ⟨⟨fun j => [h0, q0].getD j 0, rfl, rfl, by rw [ht]; exact hP, hD⟩, hS.F ht⟩) hS.2.2 (show decode prog_4_method_1_code 52 = .ok (.return_, 1) by decide +kernel)
def n_Tray : MI := (⟨"FalseNotes$Tray", "<init>", "()V"⟩, prog_8_method_1_code, 1, none, 0, 0, 6, [])
def wTray (k : Nat → ClassId) (a : Nat → Nat) : va_W := [(a 0, .inr (6, [.ref (a 1), .int 0, .int (-1)])), (a 1, .inl (k 1, 60, .inr (.inl (fun _ => 0))))]
theorem f_Tray : ∀ j, j < 3 → defaultValue (clTy 6 j) = vp_V [.null, .int 0, .int 0] j := by decide +kernel
set_option maxHeartbeats 4000000 in
set_option maxRecDepth 100000 in
theorem k_Tray (l : Launch) (D : va_G) (k : Nat → ClassId) : CK l D k n_Tray 1 1 60 6 [.null, .int 0, .int 0] (fun a : Nat → Nat => a 0) (wTray k) := by
  intro h0 sz
  refine Met.ofW (cc := prog_8_method_1_code) (maxL := 1) (ret := none) (by decide) rfl ?_
  intro p e s m args below meth c s₁ B hml hv
  obtain ⟨rfl, hsz, hP, hK⟩ := hv
  have S : CallFix p m c prog_8_method_1_code 1 s _ (WS n_Tray) "FalseNotes$Tray" := ⟨B.exec, B.bytes, hml, findClass_of_methodNamed B.named, atoms_spec (ws := WS n_Tray) B.pre⟩
  have hx := S.1
  have hb := S.2.1
  have hown := S.2.2.2.1
  have hts := S.2.2.2.2
  have hr := B.returns
  have hlocks := B.notSynchronized
  have hin : meth.name = "<init>" := (name_of_methodNamed B.named B.method).1
  subst hsz
  have hD := (kd1 h0 (.inr (6, [.null, .int 0, .int 0]))).self (sz := s.heap.size)
  generalize hAe : va_A [(h0, .inr (6, [.null, .int 0, .int 0]))] s.heap.size = A at hD ⊢
  have hA : ∀ q : Nat, s.heap.size ≤ q → A q := fun q h => by rw [← hAe]; exact Or.inr h
  have hS : va_S A s.heap s.heap [] := va_S.rf
  have hl := lv_entry ([.ref h0]) (n := 1) (Nat.le_of_ble_eq_true rfl)
  rw [lg_entry_eq]
  generalize (lg_sl ([.ref h0]) ++ List.replicate (1 - (lg_sl ([.ref h0])).length) Slot.unset).toArray = ls at hl ⊢
  have hl : lv_has ls 1 [(0, .ref h0)] := hl
  refine lv_aload_n hx hb (show decode prog_8_method_1_code 0 = .ok (.aload_n 0, 1) by decide +kernel) rfl (lv_at hl 0 rfl) ?_
  refine W.objInit hx hb hown (hts _ (in_WS (h := 478) (by decide +kernel) rfl)) (hts _ (in_WS (h := 130) (by decide +kernel) rfl)) (hts _ (in_WS (h := 131) (by decide +kernel) rfl)) rfl (by rw [hml]; exact hl.1) rfl (show decode prog_8_method_1_code 1 = .ok (.invokespecial 3, 3) by decide +kernel) (Nat.le_of_ble_eq_true rfl) (Nat.le_of_ble_eq_true rfl) ?_
  refine W.eq (g2 := F0 m 4 ls []) rfl ?_
  refine lv_aload_n hx hb (show decode prog_8_method_1_code 4 = .ok (.aload_n 0, 1) by decide +kernel) rfl (lv_at hl 0 rfl) ?_
  refine lv_bipush (v := 60) hx hb (show decode prog_8_method_1_code 5 = .ok (.bipush 60, 2) by decide +kernel) (by decide +kernel) ?_
  refine kr_arrJ (N := 60) S hK hP hD hS hA (by decide +kernel) (by decide +kernel) (by decide) (Nat.le_of_ble_eq_true rfl) (Nat.le_of_ble_eq_true rfl) (show decode prog_8_method_1_code 7 = .ok (.newarray .long, 2) by decide +kernel) (fun q0 H hP hD hS => ?_)
  have hP : va_P D vCl ((h0, .inr (6, [.null, .int 0, .int 0])) :: (q0, .inl (k 1, 60, .inr (.inl (fun _ => 0)))) :: ([])) H := hP
  have hD : va_D A ((h0, .inr (6, [.null, .int 0, .int 0])) :: (q0, .inl (k 1, 60, .inr (.inl (fun _ => 0)))) :: ([])) := hD
  refine va_putF (D := D) (ci := 6) (v := .ref q0) (ty := .array .long) (C := "FalseNotes$Tray") (T := T_Tray) (N := 3) hx hb hts (fun x hx2 => List.mem_cons_of_mem _ (cl_words ("FalseNotes$Tray", T_Tray, 3) (List.mem_of_getElem? (i := 6) rfl) x hx2)) (clTy 6) (cl_ty 6 (by decide) ("FalseNotes$Tray", T_Tray, 3) rfl) (cl_nm ("FalseNotes$Tray", T_Tray, 3) (List.mem_of_getElem? (i := 6) rfl)) hown hK.1 hP hD hS 0 rfl rfl 0 (by decide) (hts _ (in_WS (h := 479) (by decide +kernel) rfl)) (fun _ h9 => h9) rfl hin rfl (by decide +kernel) rfl rfl (Nat.le_of_ble_eq_true rfl) (show decode prog_8_method_1_code 9 = .ok (.putfield 11, 3) by decide +kernel) (fun H locs hP hD hS => ?_)
  have hP : va_P D vCl ((h0, .inr (6, [.ref q0, .int 0, .int 0])) :: (q0, .inl (k 1, 60, .inr (.inl (fun _ => 0)))) :: ([])) H := hP
  have hD : va_D A ((h0, .inr (6, [.ref q0, .int 0, .int 0])) :: (q0, .inl (k 1, 60, .inr (.inl (fun _ => 0)))) :: ([])) := hD
  refine W.eq (g2 := F0 m 12 ls []) rfl ?_
  refine lv_aload_n hx hb (show decode prog_8_method_1_code 12 = .ok (.aload_n 0, 1) by decide +kernel) rfl (lv_at hl 0 rfl) ?_
  refine lv_iconst (v := 0) hx hb (show decode prog_8_method_1_code 13 = .ok (.iconst 0, 1) by decide +kernel) (by decide +kernel) ?_
  refine va_put (D := D) (ci := 6) (v := .int 0) (ty := .int) (C := "FalseNotes$Tray") (T := T_Tray) (N := 3) hx hb hts (fun x hx2 => List.mem_cons_of_mem _ (cl_words ("FalseNotes$Tray", T_Tray, 3) (List.mem_of_getElem? (i := 6) rfl) x hx2)) (clTy 6) (cl_ty 6 (by decide) ("FalseNotes$Tray", T_Tray, 3) rfl) (cl_nm ("FalseNotes$Tray", T_Tray, 3) (List.mem_of_getElem? (i := 6) rfl)) hown hK.1 hP hD hS 0 rfl rfl 1 (by decide) (hts _ (in_WS (h := 481) (by decide +kernel) rfl)) (fun _ h9 => h9) rfl (by decide +kernel) rfl rfl (Nat.le_of_ble_eq_true rfl) (show decode prog_8_method_1_code 14 = .ok (.putfield 15, 3) by decide +kernel) (fun H locs hP hD hS => ?_)
  have hP : va_P D vCl ((h0, .inr (6, [.ref q0, .int 0, .int 0])) :: (q0, .inl (k 1, 60, .inr (.inl (fun _ => 0)))) :: ([])) H := hP
  have hD : va_D A ((h0, .inr (6, [.ref q0, .int 0, .int 0])) :: (q0, .inl (k 1, 60, .inr (.inl (fun _ => 0)))) :: ([])) := hD
  refine W.eq (g2 := F0 m 17 ls []) rfl ?_
  refine lv_aload_n hx hb (show decode prog_8_method_1_code 17 = .ok (.aload_n 0, 1) by decide +kernel) rfl (lv_at hl 0 rfl) ?_
  refine lv_iconst (v := (-1)) hx hb (show decode prog_8_method_1_code 18 = .ok (.iconst (-1), 1) by decide +kernel) (by decide +kernel) ?_
  refine va_put (D := D) (ci := 6) (v := .int (-1)) (ty := .int) (C := "FalseNotes$Tray") (T := T_Tray) (N := 3) hx hb hts (fun x hx2 => List.mem_cons_of_mem _ (cl_words ("FalseNotes$Tray", T_Tray, 3) (List.mem_of_getElem? (i := 6) rfl) x hx2)) (clTy 6) (cl_ty 6 (by decide) ("FalseNotes$Tray", T_Tray, 3) rfl) (cl_nm ("FalseNotes$Tray", T_Tray, 3) (List.mem_of_getElem? (i := 6) rfl)) hown hK.1 hP hD hS 0 rfl rfl 2 (by decide) (hts _ (in_WS (h := 483) (by decide +kernel) rfl)) (fun _ h9 => h9) rfl (by decide +kernel) rfl rfl (Nat.le_of_ble_eq_true rfl) (show decode prog_8_method_1_code 19 = .ok (.putfield 19, 3) by decide +kernel) (fun H locs hP hD hS => ?_)
  have hP : va_P D vCl ((h0, .inr (6, [.ref q0, .int 0, .int (-1)])) :: (q0, .inl (k 1, 60, .inr (.inl (fun _ => 0)))) :: ([])) H := hP
  have hD : va_D A ((h0, .inr (6, [.ref q0, .int 0, .int (-1)])) :: (q0, .inl (k 1, 60, .inr (.inl (fun _ => 0)))) :: ([])) := hD
  refine W.eq (g2 := F0 m 22 ls []) rfl ?_
  exact W.vret hx hb hr (fun t ht hW => ⟨⟨fun j => [h0, q0].getD j 0, rfl, rfl, by rw [ht]; exact hP, hD⟩, hS.F ht⟩) hS.2.2 (show decode prog_8_method_1_code 22 = .ok (.return_, 1) by decide +kernel)
