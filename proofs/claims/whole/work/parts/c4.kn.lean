theorem up3 (x y z : Nat) : va_up (va_up (va_up (fun _ => none) 0 (some x)) 1 (some y)) 2 (some z) = fun j => ([x, y, z] : List Nat)[j]? := by
  funext j
  match j with
  | 0 => rfl
  | 1 => rfl
  | 2 => rfl
  | n + 3 => simp [va_up]
theorem up4 (x y z w : Nat) : va_up (va_up (va_up (va_up (fun _ => none) 0 (some x)) 1 (some y)) 2 (some z)) 3 (some w) = fun j => ([x, y, z, w] : List Nat)[j]? := by
  funext j
  match j with
  | 0 => rfl
  | 1 => rfl
  | 2 => rfl
  | 3 => rfl
  | n + 4 => simp [va_up]
def n_Marks : MI := (⟨"FalseNotes$Marks", "<init>", "()V"⟩, prog_5_method_1_code, 2, none, 0, 0, 3, [])
def wMk (k : Nat → ClassId) (u : Nat → Nat → Nat) : va_W := (u 0 0, .inr (3, [.ref (u 0 1), .ref (u 0 2), .int 0])) :: (u 0 1, .inl (k 4, 3, .inr (.inr (.inr (.inr (fun j => ([u 1 0, u 3 0, u 5 0] : List Nat)[j]?)))))) :: (u 0 2, .inl (k 5, 3, .inr (.inr (.inr (.inr (fun j => ([u 2 0, u 4 0, u 6 0] : List Nat)[j]?)))))) :: (wCh k (u 1) ++ wYr k (u 2) ++ wCh k (u 3) ++ wYr k (u 4) ++ wCh k (u 5) ++ wYr k (u 6))
theorem f_Marks : ∀ j, j < 3 → defaultValue (clTy 3 j) = vp_V [.null, .null, .int 0] j := by decide +kernel
set_option maxHeartbeats 8000000 in
set_option maxRecDepth 100000 in
theorem k_Marks (l : Launch) (D : va_G) (k : Nat → ClassId) : CK l D k n_Marks 3 59 1773 3 [.null, .null, .int 0] (fun u : Nat → Nat → Nat => u 0 0) (wMk k) := by
  intro h0 sz
  refine Met.ofW (cc := prog_5_method_1_code) (maxL := 2) (ret := none) (by decide) rfl ?_
  intro p e s m args below meth c s₁ B hml hv
  obtain ⟨rfl, hsz, hP, hK⟩ := hv
  have S : CallFix p m c prog_5_method_1_code 2 s _ (WS n_Marks) "FalseNotes$Marks" := ⟨B.exec, B.bytes, hml, findClass_of_methodNamed B.named, atoms_spec (ws := WS n_Marks) B.pre⟩
  have hx := S.1
  have hb := S.2.1
  have hown := S.2.2.2.1
  have hts := S.2.2.2.2
  have hr := B.returns
  have hlocks := B.notSynchronized
  have hin : meth.name = "<init>" := (name_of_methodNamed B.named B.method).1
  subst hsz
  have hD := (kd1 h0 (.inr (3, [.null, .null, .int 0]))).self (sz := s.heap.size)
  generalize hAe : va_A [(h0, .inr (3, [.null, .null, .int 0]))] s.heap.size = A at hD ⊢
  have hA : ∀ q : Nat, s.heap.size ≤ q → A q := fun q h => by rw [← hAe]; exact Or.inr h
  have hS : va_S A s.heap s.heap [] := va_S.rf
  have hl := lv_entry ([.ref h0]) (n := 2) (Nat.le_of_ble_eq_true rfl)
  rw [lg_entry_eq]
  generalize (lg_sl ([.ref h0]) ++ List.replicate (2 - (lg_sl ([.ref h0])).length) Slot.unset).toArray = ls at hl ⊢
  have hl : lv_has ls 2 [(0, .ref h0)] := hl
  refine lv_aload_n hx hb (show decode prog_5_method_1_code 0 = .ok (.aload_n 0, 1) by decide +kernel) rfl (lv_at hl 0 rfl) ?_
  refine W.objInit hx hb hown (hts _ (in_WS (h := 224) (by decide +kernel) rfl)) (hts _ (in_WS (h := 130) (by decide +kernel) rfl)) (hts _ (in_WS (h := 131) (by decide +kernel) rfl)) rfl (by rw [hml]; exact hl.1) rfl (show decode prog_5_method_1_code 1 = .ok (.invokespecial 1, 3) by decide +kernel) (Nat.le_of_ble_eq_true rfl) (Nat.le_of_ble_eq_true rfl) ?_
  refine W.eq (g2 := F0 m 4 ls []) rfl ?_
  refine lv_aload_n hx hb (show decode prog_5_method_1_code 4 = .ok (.aload_n 0, 1) by decide +kernel) rfl (lv_at hl 0 rfl) ?_
  refine lv_iconst (v := 3) hx hb (show decode prog_5_method_1_code 5 = .ok (.iconst 3, 1) by decide +kernel) (by decide +kernel) ?_
  refine kr_arrQ (N := 3) (t := 4) (a1 := 225) S hK hP hD hS hA hK.2.1.2.1 rfl (by decide +kernel) (by decide +kernel) (by decide +kernel) (by decide) (Nat.le_of_ble_eq_true rfl) (Nat.le_of_ble_eq_true rfl) (show decode prog_5_method_1_code 6 = .ok (.anewarray 9, 3) by decide +kernel) (fun q0 H hP hD hS => ?_)
  have hP : va_P D vCl ((h0, .inr (3, [.null, .null, .int 0])) :: (q0, .inl (k 4, 3, .inr (.inr (.inr (.inr (fun _ => none)))))) :: ([])) H := hP
  have hD : va_D A ((h0, .inr (3, [.null, .null, .int 0])) :: (q0, .inl (k 4, 3, .inr (.inr (.inr (.inr (fun _ => none)))))) :: ([])) := hD
  refine va_putF (D := D) (ci := 3) (v := .ref q0) (ty := .array (.object "FalseNotes$Choir")) (C := "FalseNotes$Marks") (T := T_Marks) (N := 3) hx hb hts (fun x hx2 => List.mem_cons_of_mem _ (cl_words ("FalseNotes$Marks", T_Marks, 3) (List.mem_of_getElem? (i := 3) rfl) x hx2)) (clTy 3) (cl_ty 3 (by decide) ("FalseNotes$Marks", T_Marks, 3) rfl) (cl_nm ("FalseNotes$Marks", T_Marks, 3) (List.mem_of_getElem? (i := 3) rfl)) hown hK.1 hP hD hS 0 rfl rfl 0 (by decide) (hts _ (in_WS (h := 386) (by decide +kernel) rfl)) (fun _ h9 => h9) rfl hin rfl (by decide +kernel) rfl rfl (Nat.le_of_ble_eq_true rfl) (show decode prog_5_method_1_code 9 = .ok (.putfield 11, 3) by decide +kernel) (fun H locs hP hD hS => ?_)
  have hP : va_P D vCl ((h0, .inr (3, [.ref q0, .null, .int 0])) :: (q0, .inl (k 4, 3, .inr (.inr (.inr (.inr (fun _ => none)))))) :: ([])) H := hP
  have hD : va_D A ((h0, .inr (3, [.ref q0, .null, .int 0])) :: (q0, .inl (k 4, 3, .inr (.inr (.inr (.inr (fun _ => none)))))) :: ([])) := hD
  refine W.eq (g2 := F0 m 12 ls []) rfl ?_
  refine lv_aload_n hx hb (show decode prog_5_method_1_code 12 = .ok (.aload_n 0, 1) by decide +kernel) rfl (lv_at hl 0 rfl) ?_
  refine lv_iconst (v := 3) hx hb (show decode prog_5_method_1_code 13 = .ok (.iconst 3, 1) by decide +kernel) (by decide +kernel) ?_
  refine kr_arrQ (N := 3) (t := 5) (a1 := 227) S hK hP hD hS hA hK.2.1.2.2 rfl (by decide +kernel) (by decide +kernel) (by decide +kernel) (by decide) (Nat.le_of_ble_eq_true rfl) (Nat.le_of_ble_eq_true rfl) (show decode prog_5_method_1_code 14 = .ok (.anewarray 15, 3) by decide +kernel) (fun q1 H hP hD hS => ?_)
  have hP : va_P D vCl ((h0, .inr (3, [.ref q0, .null, .int 0])) :: (q0, .inl (k 4, 3, .inr (.inr (.inr (.inr (fun _ => none)))))) :: (q1, .inl (k 5, 3, .inr (.inr (.inr (.inr (fun _ => none)))))) :: ([])) H := hP
  have hD : va_D A ((h0, .inr (3, [.ref q0, .null, .int 0])) :: (q0, .inl (k 4, 3, .inr (.inr (.inr (.inr (fun _ => none)))))) :: (q1, .inl (k 5, 3, .inr (.inr (.inr (.inr (fun _ => none)))))) :: ([])) := hD
  refine va_putF (D := D) (ci := 3) (v := .ref q1) (ty := .array (.object "FalseNotes$Years")) (C := "FalseNotes$Marks") (T := T_Marks) (N := 3) hx hb hts (fun x hx2 => List.mem_cons_of_mem _ (cl_words ("FalseNotes$Marks", T_Marks, 3) (List.mem_of_getElem? (i := 3) rfl) x hx2)) (clTy 3) (cl_ty 3 (by decide) ("FalseNotes$Marks", T_Marks, 3) rfl) (cl_nm ("FalseNotes$Marks", T_Marks, 3) (List.mem_of_getElem? (i := 3) rfl)) hown hK.1 hP hD hS 0 rfl rfl 1 (by decide) (hts _ (in_WS (h := 387) (by decide +kernel) rfl)) (fun _ h9 => h9) rfl hin rfl (by decide +kernel) rfl rfl (Nat.le_of_ble_eq_true rfl) (show decode prog_5_method_1_code 17 = .ok (.putfield 17, 3) by decide +kernel) (fun H locs hP hD hS => ?_)
  have hP : va_P D vCl ((h0, .inr (3, [.ref q0, .ref q1, .int 0])) :: (q0, .inl (k 4, 3, .inr (.inr (.inr (.inr (fun _ => none)))))) :: (q1, .inl (k 5, 3, .inr (.inr (.inr (.inr (fun _ => none)))))) :: ([])) H := hP
  have hD : va_D A ((h0, .inr (3, [.ref q0, .ref q1, .int 0])) :: (q0, .inl (k 4, 3, .inr (.inr (.inr (.inr (fun _ => none)))))) :: (q1, .inl (k 5, 3, .inr (.inr (.inr (.inr (fun _ => none)))))) :: ([])) := hD
  refine W.eq (g2 := F0 m 20 ls []) rfl ?_
  refine lv_aload_n hx hb (show decode prog_5_method_1_code 20 = .ok (.aload_n 0, 1) by decide +kernel) rfl (lv_at hl 0 rfl) ?_
  refine lv_iconst (v := 0) hx hb (show decode prog_5_method_1_code 21 = .ok (.iconst 0, 1) by decide +kernel) (by decide +kernel) ?_
  refine va_put (D := D) (ci := 3) (v := .int 0) (ty := .int) (C := "FalseNotes$Marks") (T := T_Marks) (N := 3) hx hb hts (fun x hx2 => List.mem_cons_of_mem _ (cl_words ("FalseNotes$Marks", T_Marks, 3) (List.mem_of_getElem? (i := 3) rfl) x hx2)) (clTy 3) (cl_ty 3 (by decide) ("FalseNotes$Marks", T_Marks, 3) rfl) (cl_nm ("FalseNotes$Marks", T_Marks, 3) (List.mem_of_getElem? (i := 3) rfl)) hown hK.1 hP hD hS 0 rfl rfl 2 (by decide) (hts _ (in_WS (h := 388) (by decide +kernel) rfl)) (fun _ h9 => h9) rfl (by decide +kernel) rfl rfl (Nat.le_of_ble_eq_true rfl) (show decode prog_5_method_1_code 22 = .ok (.putfield 21, 3) by decide +kernel) (fun H locs hP hD hS => ?_)
  have hP : va_P D vCl ((h0, .inr (3, [.ref q0, .ref q1, .int 0])) :: (q0, .inl (k 4, 3, .inr (.inr (.inr (.inr (fun _ => none)))))) :: (q1, .inl (k 5, 3, .inr (.inr (.inr (.inr (fun _ => none)))))) :: ([])) H := hP
  have hD : va_D A ((h0, .inr (3, [.ref q0, .ref q1, .int 0])) :: (q0, .inl (k 4, 3, .inr (.inr (.inr (.inr (fun _ => none)))))) :: (q1, .inl (k 5, 3, .inr (.inr (.inr (.inr (fun _ => none)))))) :: ([])) := hD
  refine W.eq (g2 := F0 m 25 ls []) rfl ?_
  refine lv_iconst (v := 0) hx hb (show decode prog_5_method_1_code 25 = .ok (.iconst 0, 1) by decide +kernel) (by decide +kernel) ?_
  refine lv_istore_n hx hb (show decode prog_5_method_1_code 26 = .ok (.istore_n 1, 1) by decide +kernel) rfl hl (by decide) rfl (fun ls hl => ?_)
  have hl : lv_has ls 2 [(1, .int 0), (0, .ref h0)] := hl
  refine lv_iload_n hx hb (show decode prog_5_method_1_code 27 = .ok (.iload_n 1, 1) by decide +kernel) rfl (lv_at hl 0 rfl) ?_
  refine lv_iconst (v := 3) hx hb (show decode prog_5_method_1_code 28 = .ok (.iconst 3, 1) by decide +kernel) (by decide +kernel) ?_
  refine lv_icmp_ge (tgt := 64) hx hb (show decode prog_5_method_1_code 29 = .ok (.if_icmp .ge 35, 3) by decide +kernel) (by decide) (fun h => absurd h (by decide)) (fun _ => ?_)
  refine lv_aload_n hx hb (show decode prog_5_method_1_code 32 = .ok (.aload_n 0, 1) by decide +kernel) rfl (lv_at hl 1 rfl) ?_
  refine va_get (D := D) (ci := 3) (v := .ref q0) (C := "FalseNotes$Marks") (T := T_Marks) (N := 3) hx hb hts (fun x hx2 => List.mem_cons_of_mem _ (cl_words ("FalseNotes$Marks", T_Marks, 3) (List.mem_of_getElem? (i := 3) rfl) x hx2)) hown hK.1 hP 0 rfl rfl 0 (by decide) (hts _ (in_WS (h := 386) (by decide +kernel) rfl)) (fun _ h9 => h9) rfl (show decode prog_5_method_1_code 33 = .ok (.getfield 11, 3) by decide +kernel) ?_
  refine lv_iload_n hx hb (show decode prog_5_method_1_code 36 = .ok (.iload_n 1, 1) by decide +kernel) rfl (lv_at hl 0 rfl) ?_
  refine kr_new (C := "FalseNotes$Choir") (T := T_Choir) (N := 16) (ci := 0) (a1 := 225) (a2 := 229) (a3 := 109) (a4 := 232) (a5 := 231) S hK (k_Choir l D k) rfl ⟨rfl, rfl, by decide, by decide, by decide⟩ f_Choir (by decide +kernel) (by decide +kernel) (by decide +kernel) (by decide +kernel) (by decide +kernel) (Or.inr (by decide +kernel)) hP hD hS hA hl.1 ⟨(Nat.le_of_ble_eq_true rfl), (Nat.le_of_ble_eq_true rfl)⟩ ⟨(Nat.le_of_ble_eq_true rfl), (Nat.le_of_ble_eq_true rfl)⟩ (Nat.le_of_ble_eq_true rfl) (show decode prog_5_method_1_code 37 = .ok (.new 9, 3) by decide +kernel) (show decode prog_5_method_1_code 40 = .ok (.dup, 1) by decide +kernel) (show decode prog_5_method_1_code 41 = .ok (.invokespecial 25, 3) by decide +kernel) (fun a2 H locs hP hD hS => ?_)
  have hP : va_P D vCl ((h0, .inr (3, [.ref q0, .ref q1, .int 0])) :: (q0, .inl (k 4, 3, .inr (.inr (.inr (.inr (fun _ => none)))))) :: (q1, .inl (k 5, 3, .inr (.inr (.inr (.inr (fun _ => none)))))) :: (wCh k a2)) H := hP
  have hD : va_D A ((h0, .inr (3, [.ref q0, .ref q1, .int 0])) :: (q0, .inl (k 4, 3, .inr (.inr (.inr (.inr (fun _ => none)))))) :: (q1, .inl (k 5, 3, .inr (.inr (.inr (.inr (fun _ => none)))))) :: (wCh k a2)) := hD
  refine W.eq (g2 := F0 m 44 ls [.ref (a2 0), .int 0, .ref q0]) rfl ?_
  refine va_astq (r := ("FalseNotes$Choir", T_Choir, 16)) hx hb hK.1 hP hD hS 1 4 3 0 rfl rfl rfl rfl (by unfold vp_in; decide +kernel) (show decode prog_5_method_1_code 44 = .ok (.aastore, 1) by decide +kernel) (fun H locs hP hD hS => ?_)
  have hP : va_P D vCl ((h0, .inr (3, [.ref q0, .ref q1, .int 0])) :: (q0, .inl (k 4, 3, .inr (.inr (.inr (.inr (va_up (fun _ => none) 0 (some (a2 0)))))))) :: (q1, .inl (k 5, 3, .inr (.inr (.inr (.inr (fun _ => none)))))) :: (wCh k a2)) H := hP
  have hD : va_D A ((h0, .inr (3, [.ref q0, .ref q1, .int 0])) :: (q0, .inl (k 4, 3, .inr (.inr (.inr (.inr (va_up (fun _ => none) 0 (some (a2 0)))))))) :: (q1, .inl (k 5, 3, .inr (.inr (.inr (.inr (fun _ => none)))))) :: (wCh k a2)) := hD
  refine W.eq (g2 := F0 m 45 ls []) rfl ?_
  refine lv_aload_n hx hb (show decode prog_5_method_1_code 45 = .ok (.aload_n 0, 1) by decide +kernel) rfl (lv_at hl 1 rfl) ?_
  refine va_get (D := D) (ci := 3) (v := .ref q1) (C := "FalseNotes$Marks") (T := T_Marks) (N := 3) hx hb hts (fun x hx2 => List.mem_cons_of_mem _ (cl_words ("FalseNotes$Marks", T_Marks, 3) (List.mem_of_getElem? (i := 3) rfl) x hx2)) hown hK.1 hP 0 rfl rfl 1 (by decide) (hts _ (in_WS (h := 387) (by decide +kernel) rfl)) (fun _ h9 => h9) rfl (show decode prog_5_method_1_code 46 = .ok (.getfield 17, 3) by decide +kernel) ?_
  refine lv_iload_n hx hb (show decode prog_5_method_1_code 49 = .ok (.iload_n 1, 1) by decide +kernel) rfl (lv_at hl 0 rfl) ?_
  refine kr_new (C := "FalseNotes$Years") (T := T_Years) (N := 9) (ci := 8) (a1 := 227) (a2 := 337) (a3 := 111) (a4 := 340) (a5 := 339) S hK (k_Years l D k) rfl ⟨rfl, rfl, by decide, by decide, by decide⟩ f_Years (by decide +kernel) (by decide +kernel) (by decide +kernel) (by decide +kernel) (by decide +kernel) (Or.inr (by decide +kernel)) hP hD hS hA hl.1 ⟨(Nat.le_of_ble_eq_true rfl), (Nat.le_of_ble_eq_true rfl)⟩ ⟨(Nat.le_of_ble_eq_true rfl), (Nat.le_of_ble_eq_true rfl)⟩ (Nat.le_of_ble_eq_true rfl) (show decode prog_5_method_1_code 50 = .ok (.new 15, 3) by decide +kernel) (show decode prog_5_method_1_code 53 = .ok (.dup, 1) by decide +kernel) (show decode prog_5_method_1_code 54 = .ok (.invokespecial 26, 3) by decide +kernel) (fun a3 H locs hP hD hS => ?_)
  have hP : va_P D vCl ((h0, .inr (3, [.ref q0, .ref q1, .int 0])) :: (q0, .inl (k 4, 3, .inr (.inr (.inr (.inr (va_up (fun _ => none) 0 (some (a2 0)))))))) :: (q1, .inl (k 5, 3, .inr (.inr (.inr (.inr (fun _ => none)))))) :: (wCh k a2 ++ wYr k a3)) H := hP
  have hD : va_D A ((h0, .inr (3, [.ref q0, .ref q1, .int 0])) :: (q0, .inl (k 4, 3, .inr (.inr (.inr (.inr (va_up (fun _ => none) 0 (some (a2 0)))))))) :: (q1, .inl (k 5, 3, .inr (.inr (.inr (.inr (fun _ => none)))))) :: (wCh k a2 ++ wYr k a3)) := hD
  refine W.eq (g2 := F0 m 57 ls [.ref (a3 0), .int 0, .ref q1]) rfl ?_
  refine va_astq (r := ("FalseNotes$Years", T_Years, 9)) hx hb hK.1 hP hD hS 2 5 15 8 rfl rfl rfl rfl (by unfold vp_in; decide +kernel) (show decode prog_5_method_1_code 57 = .ok (.aastore, 1) by decide +kernel) (fun H locs hP hD hS => ?_)
  have hP : va_P D vCl ((h0, .inr (3, [.ref q0, .ref q1, .int 0])) :: (q0, .inl (k 4, 3, .inr (.inr (.inr (.inr (va_up (fun _ => none) 0 (some (a2 0)))))))) :: (q1, .inl (k 5, 3, .inr (.inr (.inr (.inr (va_up (fun _ => none) 0 (some (a3 0)))))))) :: (wCh k a2 ++ wYr k a3)) H := hP
  have hD : va_D A ((h0, .inr (3, [.ref q0, .ref q1, .int 0])) :: (q0, .inl (k 4, 3, .inr (.inr (.inr (.inr (va_up (fun _ => none) 0 (some (a2 0)))))))) :: (q1, .inl (k 5, 3, .inr (.inr (.inr (.inr (va_up (fun _ => none) 0 (some (a3 0)))))))) :: (wCh k a2 ++ wYr k a3)) := hD
  refine W.eq (g2 := F0 m 58 ls []) rfl ?_
  refine lv_iinc (v := 1) hx hb (show decode prog_5_method_1_code 58 = .ok (.iinc 1 1, 3) by decide +kernel) hl (k := 0) rfl (by decide +kernel) (by decide) rfl (fun ls hl => ?_)
  have hl : lv_has ls 2 [(1, .int 1), (0, .ref h0)] := hl
  refine lv_goto (tgt := 27) hx hb (show decode prog_5_method_1_code 61 = .ok (.goto (-34), 3) by decide +kernel) (by decide) ?_
  refine lv_iload_n hx hb (show decode prog_5_method_1_code 27 = .ok (.iload_n 1, 1) by decide +kernel) rfl (lv_at hl 0 rfl) ?_
  refine lv_iconst (v := 3) hx hb (show decode prog_5_method_1_code 28 = .ok (.iconst 3, 1) by decide +kernel) (by decide +kernel) ?_
  refine lv_icmp_ge (tgt := 64) hx hb (show decode prog_5_method_1_code 29 = .ok (.if_icmp .ge 35, 3) by decide +kernel) (by decide) (fun h => absurd h (by decide)) (fun _ => ?_)
  refine lv_aload_n hx hb (show decode prog_5_method_1_code 32 = .ok (.aload_n 0, 1) by decide +kernel) rfl (lv_at hl 1 rfl) ?_
  refine va_get (D := D) (ci := 3) (v := .ref q0) (C := "FalseNotes$Marks") (T := T_Marks) (N := 3) hx hb hts (fun x hx2 => List.mem_cons_of_mem _ (cl_words ("FalseNotes$Marks", T_Marks, 3) (List.mem_of_getElem? (i := 3) rfl) x hx2)) hown hK.1 hP 0 rfl rfl 0 (by decide) (hts _ (in_WS (h := 386) (by decide +kernel) rfl)) (fun _ h9 => h9) rfl (show decode prog_5_method_1_code 33 = .ok (.getfield 11, 3) by decide +kernel) ?_
  refine lv_iload_n hx hb (show decode prog_5_method_1_code 36 = .ok (.iload_n 1, 1) by decide +kernel) rfl (lv_at hl 0 rfl) ?_
  refine kr_new (C := "FalseNotes$Choir") (T := T_Choir) (N := 16) (ci := 0) (a1 := 225) (a2 := 229) (a3 := 109) (a4 := 232) (a5 := 231) S hK (k_Choir l D k) rfl ⟨rfl, rfl, by decide, by decide, by decide⟩ f_Choir (by decide +kernel) (by decide +kernel) (by decide +kernel) (by decide +kernel) (by decide +kernel) (Or.inr (by decide +kernel)) hP hD hS hA hl.1 ⟨(Nat.le_of_ble_eq_true rfl), (Nat.le_of_ble_eq_true rfl)⟩ ⟨(Nat.le_of_ble_eq_true rfl), (Nat.le_of_ble_eq_true rfl)⟩ (Nat.le_of_ble_eq_true rfl) (show decode prog_5_method_1_code 37 = .ok (.new 9, 3) by decide +kernel) (show decode prog_5_method_1_code 40 = .ok (.dup, 1) by decide +kernel) (show decode prog_5_method_1_code 41 = .ok (.invokespecial 25, 3) by decide +kernel) (fun a4 H locs hP hD hS => ?_)
  have hP : va_P D vCl ((h0, .inr (3, [.ref q0, .ref q1, .int 0])) :: (q0, .inl (k 4, 3, .inr (.inr (.inr (.inr (va_up (fun _ => none) 0 (some (a2 0)))))))) :: (q1, .inl (k 5, 3, .inr (.inr (.inr (.inr (va_up (fun _ => none) 0 (some (a3 0)))))))) :: (wCh k a2 ++ wYr k a3 ++ wCh k a4)) H := hP
  have hD : va_D A ((h0, .inr (3, [.ref q0, .ref q1, .int 0])) :: (q0, .inl (k 4, 3, .inr (.inr (.inr (.inr (va_up (fun _ => none) 0 (some (a2 0)))))))) :: (q1, .inl (k 5, 3, .inr (.inr (.inr (.inr (va_up (fun _ => none) 0 (some (a3 0)))))))) :: (wCh k a2 ++ wYr k a3 ++ wCh k a4)) := hD
  refine W.eq (g2 := F0 m 44 ls [.ref (a4 0), .int 1, .ref q0]) rfl ?_
  refine va_astq (r := ("FalseNotes$Choir", T_Choir, 16)) hx hb hK.1 hP hD hS 1 4 22 0 rfl rfl rfl rfl (by unfold vp_in; decide +kernel) (show decode prog_5_method_1_code 44 = .ok (.aastore, 1) by decide +kernel) (fun H locs hP hD hS => ?_)
  have hP : va_P D vCl ((h0, .inr (3, [.ref q0, .ref q1, .int 0])) :: (q0, .inl (k 4, 3, .inr (.inr (.inr (.inr (va_up (va_up (fun _ => none) 0 (some (a2 0))) 1 (some (a4 0)))))))) :: (q1, .inl (k 5, 3, .inr (.inr (.inr (.inr (va_up (fun _ => none) 0 (some (a3 0)))))))) :: (wCh k a2 ++ wYr k a3 ++ wCh k a4)) H := hP
  have hD : va_D A ((h0, .inr (3, [.ref q0, .ref q1, .int 0])) :: (q0, .inl (k 4, 3, .inr (.inr (.inr (.inr (va_up (va_up (fun _ => none) 0 (some (a2 0))) 1 (some (a4 0)))))))) :: (q1, .inl (k 5, 3, .inr (.inr (.inr (.inr (va_up (fun _ => none) 0 (some (a3 0)))))))) :: (wCh k a2 ++ wYr k a3 ++ wCh k a4)) := hD
  refine W.eq (g2 := F0 m 45 ls []) rfl ?_
  refine lv_aload_n hx hb (show decode prog_5_method_1_code 45 = .ok (.aload_n 0, 1) by decide +kernel) rfl (lv_at hl 1 rfl) ?_
  refine va_get (D := D) (ci := 3) (v := .ref q1) (C := "FalseNotes$Marks") (T := T_Marks) (N := 3) hx hb hts (fun x hx2 => List.mem_cons_of_mem _ (cl_words ("FalseNotes$Marks", T_Marks, 3) (List.mem_of_getElem? (i := 3) rfl) x hx2)) hown hK.1 hP 0 rfl rfl 1 (by decide) (hts _ (in_WS (h := 387) (by decide +kernel) rfl)) (fun _ h9 => h9) rfl (show decode prog_5_method_1_code 46 = .ok (.getfield 17, 3) by decide +kernel) ?_
  refine lv_iload_n hx hb (show decode prog_5_method_1_code 49 = .ok (.iload_n 1, 1) by decide +kernel) rfl (lv_at hl 0 rfl) ?_
  refine kr_new (C := "FalseNotes$Years") (T := T_Years) (N := 9) (ci := 8) (a1 := 227) (a2 := 337) (a3 := 111) (a4 := 340) (a5 := 339) S hK (k_Years l D k) rfl ⟨rfl, rfl, by decide, by decide, by decide⟩ f_Years (by decide +kernel) (by decide +kernel) (by decide +kernel) (by decide +kernel) (by decide +kernel) (Or.inr (by decide +kernel)) hP hD hS hA hl.1 ⟨(Nat.le_of_ble_eq_true rfl), (Nat.le_of_ble_eq_true rfl)⟩ ⟨(Nat.le_of_ble_eq_true rfl), (Nat.le_of_ble_eq_true rfl)⟩ (Nat.le_of_ble_eq_true rfl) (show decode prog_5_method_1_code 50 = .ok (.new 15, 3) by decide +kernel) (show decode prog_5_method_1_code 53 = .ok (.dup, 1) by decide +kernel) (show decode prog_5_method_1_code 54 = .ok (.invokespecial 26, 3) by decide +kernel) (fun a5 H locs hP hD hS => ?_)
  have hP : va_P D vCl ((h0, .inr (3, [.ref q0, .ref q1, .int 0])) :: (q0, .inl (k 4, 3, .inr (.inr (.inr (.inr (va_up (va_up (fun _ => none) 0 (some (a2 0))) 1 (some (a4 0)))))))) :: (q1, .inl (k 5, 3, .inr (.inr (.inr (.inr (va_up (fun _ => none) 0 (some (a3 0)))))))) :: (wCh k a2 ++ wYr k a3 ++ wCh k a4 ++ wYr k a5)) H := hP
  have hD : va_D A ((h0, .inr (3, [.ref q0, .ref q1, .int 0])) :: (q0, .inl (k 4, 3, .inr (.inr (.inr (.inr (va_up (va_up (fun _ => none) 0 (some (a2 0))) 1 (some (a4 0)))))))) :: (q1, .inl (k 5, 3, .inr (.inr (.inr (.inr (va_up (fun _ => none) 0 (some (a3 0)))))))) :: (wCh k a2 ++ wYr k a3 ++ wCh k a4 ++ wYr k a5)) := hD
  refine W.eq (g2 := F0 m 57 ls [.ref (a5 0), .int 1, .ref q1]) rfl ?_
  refine va_astq (r := ("FalseNotes$Years", T_Years, 9)) hx hb hK.1 hP hD hS 2 5 34 8 rfl rfl rfl rfl (by unfold vp_in; decide +kernel) (show decode prog_5_method_1_code 57 = .ok (.aastore, 1) by decide +kernel) (fun H locs hP hD hS => ?_)
  have hP : va_P D vCl ((h0, .inr (3, [.ref q0, .ref q1, .int 0])) :: (q0, .inl (k 4, 3, .inr (.inr (.inr (.inr (va_up (va_up (fun _ => none) 0 (some (a2 0))) 1 (some (a4 0)))))))) :: (q1, .inl (k 5, 3, .inr (.inr (.inr (.inr (va_up (va_up (fun _ => none) 0 (some (a3 0))) 1 (some (a5 0)))))))) :: (wCh k a2 ++ wYr k a3 ++ wCh k a4 ++ wYr k a5)) H := hP
  have hD : va_D A ((h0, .inr (3, [.ref q0, .ref q1, .int 0])) :: (q0, .inl (k 4, 3, .inr (.inr (.inr (.inr (va_up (va_up (fun _ => none) 0 (some (a2 0))) 1 (some (a4 0)))))))) :: (q1, .inl (k 5, 3, .inr (.inr (.inr (.inr (va_up (va_up (fun _ => none) 0 (some (a3 0))) 1 (some (a5 0)))))))) :: (wCh k a2 ++ wYr k a3 ++ wCh k a4 ++ wYr k a5)) := hD
  refine W.eq (g2 := F0 m 58 ls []) rfl ?_
  refine lv_iinc (v := 2) hx hb (show decode prog_5_method_1_code 58 = .ok (.iinc 1 1, 3) by decide +kernel) hl (k := 0) rfl (by decide +kernel) (by decide) rfl (fun ls hl => ?_)
  have hl : lv_has ls 2 [(1, .int 2), (0, .ref h0)] := hl
  refine lv_goto (tgt := 27) hx hb (show decode prog_5_method_1_code 61 = .ok (.goto (-34), 3) by decide +kernel) (by decide) ?_
  refine lv_iload_n hx hb (show decode prog_5_method_1_code 27 = .ok (.iload_n 1, 1) by decide +kernel) rfl (lv_at hl 0 rfl) ?_
  refine lv_iconst (v := 3) hx hb (show decode prog_5_method_1_code 28 = .ok (.iconst 3, 1) by decide +kernel) (by decide +kernel) ?_
  refine lv_icmp_ge (tgt := 64) hx hb (show decode prog_5_method_1_code 29 = .ok (.if_icmp .ge 35, 3) by decide +kernel) (by decide) (fun h => absurd h (by decide)) (fun _ => ?_)
  refine lv_aload_n hx hb (show decode prog_5_method_1_code 32 = .ok (.aload_n 0, 1) by decide +kernel) rfl (lv_at hl 1 rfl) ?_
  refine va_get (D := D) (ci := 3) (v := .ref q0) (C := "FalseNotes$Marks") (T := T_Marks) (N := 3) hx hb hts (fun x hx2 => List.mem_cons_of_mem _ (cl_words ("FalseNotes$Marks", T_Marks, 3) (List.mem_of_getElem? (i := 3) rfl) x hx2)) hown hK.1 hP 0 rfl rfl 0 (by decide) (hts _ (in_WS (h := 386) (by decide +kernel) rfl)) (fun _ h9 => h9) rfl (show decode prog_5_method_1_code 33 = .ok (.getfield 11, 3) by decide +kernel) ?_
  refine lv_iload_n hx hb (show decode prog_5_method_1_code 36 = .ok (.iload_n 1, 1) by decide +kernel) rfl (lv_at hl 0 rfl) ?_
  refine kr_new (C := "FalseNotes$Choir") (T := T_Choir) (N := 16) (ci := 0) (a1 := 225) (a2 := 229) (a3 := 109) (a4 := 232) (a5 := 231) S hK (k_Choir l D k) rfl ⟨rfl, rfl, by decide, by decide, by decide⟩ f_Choir (by decide +kernel) (by decide +kernel) (by decide +kernel) (by decide +kernel) (by decide +kernel) (Or.inr (by decide +kernel)) hP hD hS hA hl.1 ⟨(Nat.le_of_ble_eq_true rfl), (Nat.le_of_ble_eq_true rfl)⟩ ⟨(Nat.le_of_ble_eq_true rfl), (Nat.le_of_ble_eq_true rfl)⟩ (Nat.le_of_ble_eq_true rfl) (show decode prog_5_method_1_code 37 = .ok (.new 9, 3) by decide +kernel) (show decode prog_5_method_1_code 40 = .ok (.dup, 1) by decide +kernel) (show decode prog_5_method_1_code 41 = .ok (.invokespecial 25, 3) by decide +kernel) (fun a6 H locs hP hD hS => ?_)
  have hP : va_P D vCl ((h0, .inr (3, [.ref q0, .ref q1, .int 0])) :: (q0, .inl (k 4, 3, .inr (.inr (.inr (.inr (va_up (va_up (fun _ => none) 0 (some (a2 0))) 1 (some (a4 0)))))))) :: (q1, .inl (k 5, 3, .inr (.inr (.inr (.inr (va_up (va_up (fun _ => none) 0 (some (a3 0))) 1 (some (a5 0)))))))) :: (wCh k a2 ++ wYr k a3 ++ wCh k a4 ++ wYr k a5 ++ wCh k a6)) H := hP
  have hD : va_D A ((h0, .inr (3, [.ref q0, .ref q1, .int 0])) :: (q0, .inl (k 4, 3, .inr (.inr (.inr (.inr (va_up (va_up (fun _ => none) 0 (some (a2 0))) 1 (some (a4 0)))))))) :: (q1, .inl (k 5, 3, .inr (.inr (.inr (.inr (va_up (va_up (fun _ => none) 0 (some (a3 0))) 1 (some (a5 0)))))))) :: (wCh k a2 ++ wYr k a3 ++ wCh k a4 ++ wYr k a5 ++ wCh k a6)) := hD
  refine W.eq (g2 := F0 m 44 ls [.ref (a6 0), .int 2, .ref q0]) rfl ?_
  refine va_astq (r := ("FalseNotes$Choir", T_Choir, 16)) hx hb hK.1 hP hD hS 1 4 41 0 rfl rfl rfl rfl (by unfold vp_in; decide +kernel) (show decode prog_5_method_1_code 44 = .ok (.aastore, 1) by decide +kernel) (fun H locs hP hD hS => ?_)
  have hP : va_P D vCl ((h0, .inr (3, [.ref q0, .ref q1, .int 0])) :: (q0, .inl (k 4, 3, .inr (.inr (.inr (.inr (va_up (va_up (va_up (fun _ => none) 0 (some (a2 0))) 1 (some (a4 0))) 2 (some (a6 0)))))))) :: (q1, .inl (k 5, 3, .inr (.inr (.inr (.inr (va_up (va_up (fun _ => none) 0 (some (a3 0))) 1 (some (a5 0)))))))) :: (wCh k a2 ++ wYr k a3 ++ wCh k a4 ++ wYr k a5 ++ wCh k a6)) H := hP
  have hD : va_D A ((h0, .inr (3, [.ref q0, .ref q1, .int 0])) :: (q0, .inl (k 4, 3, .inr (.inr (.inr (.inr (va_up (va_up (va_up (fun _ => none) 0 (some (a2 0))) 1 (some (a4 0))) 2 (some (a6 0)))))))) :: (q1, .inl (k 5, 3, .inr (.inr (.inr (.inr (va_up (va_up (fun _ => none) 0 (some (a3 0))) 1 (some (a5 0)))))))) :: (wCh k a2 ++ wYr k a3 ++ wCh k a4 ++ wYr k a5 ++ wCh k a6)) := hD
  refine W.eq (g2 := F0 m 45 ls []) rfl ?_
  refine lv_aload_n hx hb (show decode prog_5_method_1_code 45 = .ok (.aload_n 0, 1) by decide +kernel) rfl (lv_at hl 1 rfl) ?_
  refine va_get (D := D) (ci := 3) (v := .ref q1) (C := "FalseNotes$Marks") (T := T_Marks) (N := 3) hx hb hts (fun x hx2 => List.mem_cons_of_mem _ (cl_words ("FalseNotes$Marks", T_Marks, 3) (List.mem_of_getElem? (i := 3) rfl) x hx2)) hown hK.1 hP 0 rfl rfl 1 (by decide) (hts _ (in_WS (h := 387) (by decide +kernel) rfl)) (fun _ h9 => h9) rfl (show decode prog_5_method_1_code 46 = .ok (.getfield 17, 3) by decide +kernel) ?_
  refine lv_iload_n hx hb (show decode prog_5_method_1_code 49 = .ok (.iload_n 1, 1) by decide +kernel) rfl (lv_at hl 0 rfl) ?_
  refine kr_new (C := "FalseNotes$Years") (T := T_Years) (N := 9) (ci := 8) (a1 := 227) (a2 := 337) (a3 := 111) (a4 := 340) (a5 := 339) S hK (k_Years l D k) rfl ⟨rfl, rfl, by decide, by decide, by decide⟩ f_Years (by decide +kernel) (by decide +kernel) (by decide +kernel) (by decide +kernel) (by decide +kernel) (Or.inr (by decide +kernel)) hP hD hS hA hl.1 ⟨(Nat.le_of_ble_eq_true rfl), (Nat.le_of_ble_eq_true rfl)⟩ ⟨(Nat.le_of_ble_eq_true rfl), (Nat.le_of_ble_eq_true rfl)⟩ (Nat.le_of_ble_eq_true rfl) (show decode prog_5_method_1_code 50 = .ok (.new 15, 3) by decide +kernel) (show decode prog_5_method_1_code 53 = .ok (.dup, 1) by decide +kernel) (show decode prog_5_method_1_code 54 = .ok (.invokespecial 26, 3) by decide +kernel) (fun a7 H locs hP hD hS => ?_)
  have hP : va_P D vCl ((h0, .inr (3, [.ref q0, .ref q1, .int 0])) :: (q0, .inl (k 4, 3, .inr (.inr (.inr (.inr (va_up (va_up (va_up (fun _ => none) 0 (some (a2 0))) 1 (some (a4 0))) 2 (some (a6 0)))))))) :: (q1, .inl (k 5, 3, .inr (.inr (.inr (.inr (va_up (va_up (fun _ => none) 0 (some (a3 0))) 1 (some (a5 0)))))))) :: (wCh k a2 ++ wYr k a3 ++ wCh k a4 ++ wYr k a5 ++ wCh k a6 ++ wYr k a7)) H := hP
  have hD : va_D A ((h0, .inr (3, [.ref q0, .ref q1, .int 0])) :: (q0, .inl (k 4, 3, .inr (.inr (.inr (.inr (va_up (va_up (va_up (fun _ => none) 0 (some (a2 0))) 1 (some (a4 0))) 2 (some (a6 0)))))))) :: (q1, .inl (k 5, 3, .inr (.inr (.inr (.inr (va_up (va_up (fun _ => none) 0 (some (a3 0))) 1 (some (a5 0)))))))) :: (wCh k a2 ++ wYr k a3 ++ wCh k a4 ++ wYr k a5 ++ wCh k a6 ++ wYr k a7)) := hD
  refine W.eq (g2 := F0 m 57 ls [.ref (a7 0), .int 2, .ref q1]) rfl ?_
  refine va_astq (r := ("FalseNotes$Years", T_Years, 9)) hx hb hK.1 hP hD hS 2 5 53 8 rfl rfl rfl rfl (by unfold vp_in; decide +kernel) (show decode prog_5_method_1_code 57 = .ok (.aastore, 1) by decide +kernel) (fun H locs hP hD hS => ?_)
  have hP : va_P D vCl ((h0, .inr (3, [.ref q0, .ref q1, .int 0])) :: (q0, .inl (k 4, 3, .inr (.inr (.inr (.inr (va_up (va_up (va_up (fun _ => none) 0 (some (a2 0))) 1 (some (a4 0))) 2 (some (a6 0)))))))) :: (q1, .inl (k 5, 3, .inr (.inr (.inr (.inr (va_up (va_up (va_up (fun _ => none) 0 (some (a3 0))) 1 (some (a5 0))) 2 (some (a7 0)))))))) :: (wCh k a2 ++ wYr k a3 ++ wCh k a4 ++ wYr k a5 ++ wCh k a6 ++ wYr k a7)) H := hP
  have hD : va_D A ((h0, .inr (3, [.ref q0, .ref q1, .int 0])) :: (q0, .inl (k 4, 3, .inr (.inr (.inr (.inr (va_up (va_up (va_up (fun _ => none) 0 (some (a2 0))) 1 (some (a4 0))) 2 (some (a6 0)))))))) :: (q1, .inl (k 5, 3, .inr (.inr (.inr (.inr (va_up (va_up (va_up (fun _ => none) 0 (some (a3 0))) 1 (some (a5 0))) 2 (some (a7 0)))))))) :: (wCh k a2 ++ wYr k a3 ++ wCh k a4 ++ wYr k a5 ++ wCh k a6 ++ wYr k a7)) := hD
  refine W.eq (g2 := F0 m 58 ls []) rfl ?_
  refine lv_iinc (v := 3) hx hb (show decode prog_5_method_1_code 58 = .ok (.iinc 1 1, 3) by decide +kernel) hl (k := 0) rfl (by decide +kernel) (by decide) rfl (fun ls hl => ?_)
  have hl : lv_has ls 2 [(1, .int 3), (0, .ref h0)] := hl
  refine lv_goto (tgt := 27) hx hb (show decode prog_5_method_1_code 61 = .ok (.goto (-34), 3) by decide +kernel) (by decide) ?_
  refine lv_iload_n hx hb (show decode prog_5_method_1_code 27 = .ok (.iload_n 1, 1) by decide +kernel) rfl (lv_at hl 0 rfl) ?_
  refine lv_iconst (v := 3) hx hb (show decode prog_5_method_1_code 28 = .ok (.iconst 3, 1) by decide +kernel) (by decide +kernel) ?_
  refine lv_icmp_ge (tgt := 64) hx hb (show decode prog_5_method_1_code 29 = .ok (.if_icmp .ge 35, 3) by decide +kernel) (by decide) (fun _ => ?_) (fun h => absurd (by decide) h)
  simp only [up3] at hP hD
  exact W.vret hx hb hr (fun t ht hW => ⟨⟨(fun i => match i with | 0 => (fun j => [h0, q0, q1].getD j 0) | 1 => a2 | 2 => a3 | 3 => a4 | 4 => a5 | 5 => a6 | _ => a7), rfl, rfl, by rw [ht]; exact hP, hD⟩, hS.F ht⟩) hS.2.2 (show decode prog_5_method_1_code 64 = .ok (.return_, 1) by decide +kernel)
