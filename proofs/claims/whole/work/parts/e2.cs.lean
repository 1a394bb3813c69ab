theorem w_status {p : Program} {l : Launch} {e : Env} {s : State} {m : MethodId} {below : List Frame} {meth : Method} {c : Code} {b L : Nat} {xs : Nat → Int32} {E : EnvT} {ls : Array Slot} {i : Nat} {Q : State → Prop} (C : LWC p s m meth c b L xs E) (hl : lv_has ls 4 (lvL b E i)) (hi : i + 6 ≤ L) : LCS p l e s m below meth c b E ls Q 296 := by
  refine lc_I (clF := m_FN_status) (clM := m_Mod_status) (js := []) (idF := 13) (idM := 17) (kF := 550) (kM := 1550) (off := 1611) C hl hi (by decide) (by decide +kernel) rfl rfl (by decide +kernel) (by decide) (fun M Z A iv => ?_)
  have h := i_status (l := l) (E := E) (d := 20)  (Nat.le_refl _) iv
  exact h
theorem w_top {p : Program} {l : Launch} {e : Env} {s : State} {m : MethodId} {below : List Frame} {meth : Method} {c : Code} {b L : Nat} {xs : Nat → Int32} {E : EnvT} {ls : Array Slot} {i : Nat} {Q : State → Prop} (C : LWC p s m meth c b L xs E) (hl : lv_has ls 4 (lvL b E i)) (hi : i + 6 ≤ L) : LCS p l e s m below meth c b E ls Q 309 := by
  refine lc_L (clF := m_FN_top) (clM := m_Mod_top) (js := []) (idF := 18) (idM := 22) (kF := 554) (kM := 1554) (off := 1597) C hl hi (by decide) (by decide +kernel) rfl rfl (by decide +kernel) (by decide +kernel) (by decide) (fun M Z A iv => ?_)
  have h := i_top (l := l) (E := E) (d := 20)  (Nat.le_refl _) iv
  exact h
theorem w_bottom {p : Program} {l : Launch} {e : Env} {s : State} {m : MethodId} {below : List Frame} {meth : Method} {c : Code} {b L : Nat} {xs : Nat → Int32} {E : EnvT} {ls : Array Slot} {i : Nat} {Q : State → Prop} (C : LWC p s m meth c b L xs E) (hl : lv_has ls 4 (lvL b E i)) (hi : i + 6 ≤ L) : LCS p l e s m below meth c b E ls Q 323 := by
  refine lc_L (clF := m_FN_bottom) (clM := m_Mod_bottom) (js := []) (idF := 23) (idM := 26) (kF := 558) (kM := 1558) (off := 1583) C hl hi (by decide) (by decide +kernel) rfl rfl (by decide +kernel) (by decide +kernel) (by decide) (fun M Z A iv => ?_)
  have h := i_bottom (l := l) (E := E) (d := 20)  (Nat.le_refl _) iv
  exact h
theorem w_tray {p : Program} {l : Launch} {e : Env} {s : State} {m : MethodId} {below : List Frame} {meth : Method} {c : Code} {b L : Nat} {xs : Nat → Int32} {E : EnvT} {ls : Array Slot} {i : Nat} {Q : State → Prop} (C : LWC p s m meth c b L xs E) (hl : lv_has ls 4 (lvL b E i)) (hi : i + 6 ≤ L) : LCS p l e s m below meth c b E ls Q 337 := by
  refine lc_I (clF := m_FN_tray) (clM := m_Mod_tray) (js := [1, 2, 3]) (idF := 27) (idM := 31) (kF := 562) (kM := 1562) (off := 1540) C hl hi (by decide) (by decide +kernel) rfl rfl (by decide +kernel) (by decide) (fun M Z A iv => ?_)
  have h := i_tray (l := l) (E := E) (d := 20) (a := (xs (i + 1)).toInt) (b := (xs (i + 2)).toInt) (n := (xs (i + 3)).toInt) (Nat.le_refl _) iv (Int32.le_toInt _) (Int32.toInt_lt _) (Int32.le_toInt _) (Int32.toInt_lt _) (Int32.le_toInt _) (Int32.toInt_lt _)
  simp only [iN_toInt] at h
  exact h
theorem w_write {p : Program} {l : Launch} {e : Env} {s : State} {m : MethodId} {below : List Frame} {meth : Method} {c : Code} {b L : Nat} {xs : Nat → Int32} {E : EnvT} {ls : Array Slot} {i : Nat} {Q : State → Prop} (C : LWC p s m meth c b L xs E) (hl : lv_has ls 4 (lvL b E i)) (hi : i + 6 ≤ L) : LCS p l e s m below meth c b E ls Q 380 := by
  intro M Z A H locs iv hH hS kk
  have hM := i_write (l := l) (E := E) (d := 20) (a := (xs (i + 1)).toInt) (b := (xs (i + 2)).toInt) (x := lw_v (xs (i + 3)) (xs (i + 4))) (Nat.le_refl _) iv (Int32.le_toInt _) (Int32.toInt_lt _) (Int32.le_toInt _) (Int32.toInt_lt _)
  simp only [iN_toInt] at hM
  refine lv_aload_n C.1.1 C.1.2.1 (show decode code 380 = .ok (.aload_n 1, 1) by decide +kernel) rfl (lv_at hl 2 rfl) ?_
  refine lc_lds C hl hS hi [1, 2] (380 + 1) _ (by decide) (by decide +kernel) ?_
  refine lc_lw (pc := 380 + 1 + 5 * 2) C hl hS hi (by decide +kernel) ?_
  refine W.eq (g2 := F0 m (380 + 1 + 5 * 2 + 20) ls ((([(.int (xs (i + 1)), 0), (.int (xs (i + 2)), 0), (.long (lw_v (xs (i + 3)) (xs (i + 4))), 0)] : List AV).reverse ++ ((Value.ref 0, 0) : AV) :: []).map (cv E))) rfl ?_
  refine lc_call (cal := m_FN_write) (idx := 34) (k := 584) C hM (by decide +kernel) ⟨rfl, dsc_0⟩ ⟨by decide, in_0⟩ (by decide +kernel) rfl (cons_TV (cons_TV (cons_TV (fun _ h => by cases h) trivial) trivial) trivial) (fun v hv => by cases hv) hH hS hl (Nat.zero_le _) (by decide +kernel) (fun r M1 hM1 H1 locs1 hH1 hS1 hT1 => ?_)
  refine lv_aload_n C.1.1 C.1.2.1 (show decode code (380 + 1 + 5 * 2 + 20 + 3) = .ok (.aload_n 2, 1) by decide +kernel) rfl (lv_at hl 1 rfl) ?_
  refine lc_lds C hl hS1 hi [1, 2] (380 + 1 + 5 * 2 + 20 + 3 + 1) _ (by decide) (by decide +kernel) ?_
  refine lc_lw (pc := 380 + 1 + 5 * 2 + 20 + 3 + 1 + 5 * 2) C hl hS1 hi (by decide +kernel) ?_
  refine W.eq (g2 := F0 m (380 + 1 + 5 * 2 + 20 + 3 + 1 + 5 * 2 + 20) ls ((([(.int (xs (i + 1)), 0), (.int (xs (i + 2)), 0), (.long (lw_v (xs (i + 3)) (xs (i + 4))), 0)] : List AV).reverse ++ ((Value.ref 24, 41) : AV) :: pushR m_FN_write r []).map (cv E))) rfl ?_
  refine lc_call (cal := m_Mod_write) (idx := 38) (k := 1573) C hM1 (by decide +kernel) ⟨rfl, dsc_41⟩ ⟨by decide, in_24⟩ (by decide +kernel) rfl (cons_TV (cons_TV (cons_TV (fun _ h => by cases h) trivial) trivial) trivial) hT1 hH1 hS1 hl (csum_push m_FN_write r) (by decide +kernel) (fun r2 M2 hM2 H2 locs2 hH2 hS2 hT2 => ?_)
  obtain ⟨rfl, M', Z', A', rfl, iv'⟩ := hM2
  refine W.eq (g2 := F0 m 448 ls [.int (toI r), .int (toI r)]) rfl ?_
  exact lv_icmp_eq C.1.1 C.1.2.1 (show decode code 448 = .ok (.if_icmp .eq 1467, 3) by decide +kernel) (show ((448 : Nat) : Int) + 1467 = ((1915 : Nat) : Int) by decide) (fun _ => kk M' Z' A' H2 locs2 iv' hH2 hS2) (fun q => absurd rfl q)
theorem w_read {p : Program} {l : Launch} {e : Env} {s : State} {m : MethodId} {below : List Frame} {meth : Method} {c : Code} {b L : Nat} {xs : Nat → Int32} {E : EnvT} {ls : Array Slot} {i : Nat} {Q : State → Prop} (C : LWC p s m meth c b L xs E) (hl : lv_has ls 4 (lvL b E i)) (hi : i + 6 ≤ L) : LCS p l e s m below meth c b E ls Q 453 := by
  refine lc_L (clF := m_FN_read) (clM := m_Mod_read) (js := [1, 2]) (idF := 39) (idM := 43) (kF := 604) (kM := 1584) (off := 1433) C hl hi (by decide) (by decide +kernel) rfl rfl (by decide +kernel) (by decide +kernel) (by decide) (fun M Z A iv => ?_)
  have h := i_read (l := l) (E := E) (d := 20) (a := (xs (i + 1)).toInt) (b := (xs (i + 2)).toInt) (Nat.le_refl _) iv (Int32.le_toInt _) (Int32.toInt_lt _) (Int32.le_toInt _) (Int32.toInt_lt _)
  simp only [iN_toInt] at h
  exact h
theorem w_pour {p : Program} {l : Launch} {e : Env} {s : State} {m : MethodId} {below : List Frame} {meth : Method} {c : Code} {b L : Nat} {xs : Nat → Int32} {E : EnvT} {ls : Array Slot} {i : Nat} {Q : State → Prop} (C : LWC p s m meth c b L xs E) (hl : lv_has ls 4 (lvL b E i)) (hi : i + 6 ≤ L) : LCS p l e s m below meth c b E ls Q 487 := by
  refine lc_I (clF := m_FN_pour) (clM := m_Mod_pour) (js := [1, 2, 3, 4, 5]) (idF := 44) (idM := 48) (kF := 612) (kM := 1589) (off := 1370) C hl hi (by decide) (by decide +kernel) rfl rfl (by decide +kernel) (by decide) (fun M Z A iv => ?_)
  have h := i_pour (l := l) (E := E) (d := 20) (a := (xs (i + 1)).toInt) (p := (xs (i + 2)).toInt) (b := (xs (i + 3)).toInt) (q := (xs (i + 4)).toInt) (n := (xs (i + 5)).toInt) (Nat.le_refl _) iv (Int32.le_toInt _) (Int32.toInt_lt _) (Int32.le_toInt _) (Int32.toInt_lt _) (Int32.le_toInt _) (Int32.toInt_lt _) (Int32.le_toInt _) (Int32.toInt_lt _) (Int32.le_toInt _) (Int32.toInt_lt _)
  simp only [iN_toInt] at h
  exact h
theorem w_feed {p : Program} {l : Launch} {e : Env} {s : State} {m : MethodId} {below : List Frame} {meth : Method} {c : Code} {b L : Nat} {xs : Nat → Int32} {E : EnvT} {ls : Array Slot} {i : Nat} {Q : State → Prop} (C : LWC p s m meth c b L xs E) (hl : lv_has ls 4 (lvL b E i)) (hi : i + 6 ≤ L) : LCS p l e s m below meth c b E ls Q 550 := by
  refine lc_I (clF := m_FN_feed) (clM := m_Mod_feed) (js := [1, 2, 3, 4, 5]) (idF := 49) (idM := 53) (kF := 623) (kM := 1593) (off := 1307) C hl hi (by decide) (by decide +kernel) rfl rfl (by decide +kernel) (by decide) (fun M Z A iv => ?_)
  have h := i_feed (l := l) (E := E) (d := 20) (x1 := xs (i + 1)) (x2 := xs (i + 2)) (x3 := xs (i + 3)) (x4 := xs (i + 4)) (x5 := xs (i + 5)) (Nat.le_refl _) iv
  exact h
theorem w_choir {p : Program} {l : Launch} {e : Env} {s : State} {m : MethodId} {below : List Frame} {meth : Method} {c : Code} {b L : Nat} {xs : Nat → Int32} {E : EnvT} {ls : Array Slot} {i : Nat} {Q : State → Prop} (C : LWC p s m meth c b L xs E) (hl : lv_has ls 4 (lvL b E i)) (hi : i + 6 ≤ L) : LCS p l e s m below meth c b E ls Q 613 := by
  refine lc_I (clF := m_FN_choir) (clM := m_Mod_choir) (js := [1]) (idF := 54) (idM := 58) (kF := 631) (kM := 1605) (off := 1284) C hl hi (by decide) (by decide +kernel) rfl rfl (by decide +kernel) (by decide) (fun M Z A iv => ?_)
  have h := i_choir (l := l) (E := E) (d := 20) (n := (xs (i + 1)).toInt) (Nat.le_refl _) iv (Int32.le_toInt _) (Int32.toInt_lt _)
  simp only [iN_toInt] at h
  exact h
theorem w_years {p : Program} {l : Launch} {e : Env} {s : State} {m : MethodId} {below : List Frame} {meth : Method} {c : Code} {b L : Nat} {xs : Nat → Int32} {E : EnvT} {ls : Array Slot} {i : Nat} {Q : State → Prop} (C : LWC p s m meth c b L xs E) (hl : lv_has ls 4 (lvL b E i)) (hi : i + 6 ≤ L) : LCS p l e s m below meth c b E ls Q 636 := by
  refine lc_I (clF := m_FN_years) (clM := m_Mod_years) (js := [1]) (idF := 59) (idM := 62) (kF := 839) (kM := 1744) (off := 1261) C hl hi (by decide) (by decide +kernel) rfl rfl (by decide +kernel) (by decide) (fun M Z A iv => ?_)
  have h := i_years (l := l) (E := E) (d := 20) (n := (xs (i + 1)).toInt) (Nat.le_refl _) iv (Int32.le_toInt _) (Int32.toInt_lt _)
  simp only [iN_toInt] at h
  exact h
theorem w_fault {p : Program} {l : Launch} {e : Env} {s : State} {m : MethodId} {below : List Frame} {meth : Method} {c : Code} {b L : Nat} {xs : Nat → Int32} {E : EnvT} {ls : Array Slot} {i : Nat} {Q : State → Prop} (C : LWC p s m meth c b L xs E) (hl : lv_has ls 4 (lvL b E i)) (hi : i + 6 ≤ L) : LCS p l e s m below meth c b E ls Q 659 := by
  refine lc_I (clF := m_FN_fault) (clM := m_Mod_fault) (js := [1]) (idF := 63) (idM := 66) (kF := 904) (kM := 1601) (off := 1238) C hl hi (by decide) (by decide +kernel) rfl rfl (by decide +kernel) (by decide) (fun M Z A iv => ?_)
  have h := i_fault (l := l) (E := E) (d := 20) (a := (xs (i + 1)).toInt) (Nat.le_refl _) iv (Int32.le_toInt _) (Int32.toInt_lt _)
  simp only [iN_toInt] at h
  exact h
theorem w_told {p : Program} {l : Launch} {e : Env} {s : State} {m : MethodId} {below : List Frame} {meth : Method} {c : Code} {b L : Nat} {xs : Nat → Int32} {E : EnvT} {ls : Array Slot} {i : Nat} {Q : State → Prop} (C : LWC p s m meth c b L xs E) (hl : lv_has ls 4 (lvL b E i)) (hi : i + 6 ≤ L) : LCS p l e s m below meth c b E ls Q 682 := by
  refine lc_I (clF := m_FN_told) (clM := m_Mod_told) (js := [1]) (idF := 67) (idM := 70) (kF := 908) (kM := 1764) (off := 1215) C hl hi (by decide) (by decide +kernel) rfl rfl (by decide +kernel) (by decide) (fun M Z A iv => ?_)
  have h := i_told (l := l) (E := E) (d := 20) (a := (xs (i + 1)).toInt) (Nat.le_refl _) iv (Int32.le_toInt _) (Int32.toInt_lt _)
  simp only [iN_toInt] at h
  exact h
theorem w_singer {p : Program} {l : Launch} {e : Env} {s : State} {m : MethodId} {below : List Frame} {meth : Method} {c : Code} {b L : Nat} {xs : Nat → Int32} {E : EnvT} {ls : Array Slot} {i : Nat} {Q : State → Prop} (C : LWC p s m meth c b L xs E) (hl : lv_has ls 4 (lvL b E i)) (hi : i + 6 ≤ L) : LCS p l e s m below meth c b E ls Q 705 := by
  refine lc_I (clF := m_FN_singer) (clM := m_Mod_singer) (js := [1, 2]) (idF := 71) (idM := 75) (kF := 943) (kM := 1792) (off := 1182) C hl hi (by decide) (by decide +kernel) rfl rfl (by decide +kernel) (by decide) (fun M Z A iv => ?_)
  have h := i_singer (l := l) (E := E) (d := 20) (a := (xs (i + 1)).toInt) (b := (xs (i + 2)).toInt) (Nat.le_refl _) iv (Int32.le_toInt _) (Int32.toInt_lt _) (Int32.le_toInt _) (Int32.toInt_lt _)
  simp only [iN_toInt] at h
  exact h
theorem w_line {p : Program} {l : Launch} {e : Env} {s : State} {m : MethodId} {below : List Frame} {meth : Method} {c : Code} {b L : Nat} {xs : Nat → Int32} {E : EnvT} {ls : Array Slot} {i : Nat} {Q : State → Prop} (C : LWC p s m meth c b L xs E) (hl : lv_has ls 4 (lvL b E i)) (hi : i + 6 ≤ L) : LCS p l e s m below meth c b E ls Q 738 := by
  refine lc_I (clF := m_FN_line) (clM := m_Mod_line) (js := [1, 2]) (idF := 76) (idM := 79) (kF := 966) (kM := 1808) (off := 1149) C hl hi (by decide) (by decide +kernel) rfl rfl (by decide +kernel) (by decide) (fun M Z A iv => ?_)
  have h := i_line (l := l) (E := E) (d := 20) (a := (xs (i + 1)).toInt) (b := (xs (i + 2)).toInt) (Nat.le_refl _) iv (Int32.le_toInt _) (Int32.toInt_lt _) (Int32.le_toInt _) (Int32.toInt_lt _)
  simp only [iN_toInt] at h
  exact h
theorem w_held {p : Program} {l : Launch} {e : Env} {s : State} {m : MethodId} {below : List Frame} {meth : Method} {c : Code} {b L : Nat} {xs : Nat → Int32} {E : EnvT} {ls : Array Slot} {i : Nat} {Q : State → Prop} (C : LWC p s m meth c b L xs E) (hl : lv_has ls 4 (lvL b E i)) (hi : i + 6 ≤ L) : LCS p l e s m below meth c b E ls Q 771 := by
  refine lc_I (clF := m_FN_held) (clM := m_Mod_held) (js := [1, 2, 3]) (idF := 80) (idM := 84) (kF := 975) (kM := 1816) (off := 1106) C hl hi (by decide) (by decide +kernel) rfl rfl (by decide +kernel) (by decide) (fun M Z A iv => ?_)
  have h := i_held (l := l) (E := E) (d := 20) (a := (xs (i + 1)).toInt) (b := (xs (i + 2)).toInt) (z := (xs (i + 3)).toInt) (Nat.le_refl _) iv (Int32.le_toInt _) (Int32.toInt_lt _) (Int32.le_toInt _) (Int32.toInt_lt _) (Int32.le_toInt _) (Int32.toInt_lt _)
  simp only [iN_toInt] at h
  exact h
theorem w_owed {p : Program} {l : Launch} {e : Env} {s : State} {m : MethodId} {below : List Frame} {meth : Method} {c : Code} {b L : Nat} {xs : Nat → Int32} {E : EnvT} {ls : Array Slot} {i : Nat} {Q : State → Prop} (C : LWC p s m meth c b L xs E) (hl : lv_has ls 4 (lvL b E i)) (hi : i + 6 ≤ L) : LCS p l e s m below meth c b E ls Q 814 := by
  refine lc_I (clF := m_FN_owed) (clM := m_Mod_owed) (js := [1, 2]) (idF := 85) (idM := 88) (kF := 979) (kM := 1820) (off := 1073) C hl hi (by decide) (by decide +kernel) rfl rfl (by decide +kernel) (by decide) (fun M Z A iv => ?_)
  have h := i_owed (l := l) (E := E) (d := 20) (a := (xs (i + 1)).toInt) (b := (xs (i + 2)).toInt) (Nat.le_refl _) iv (Int32.le_toInt _) (Int32.toInt_lt _) (Int32.le_toInt _) (Int32.toInt_lt _)
  simp only [iN_toInt] at h
  exact h
theorem w_waiting {p : Program} {l : Launch} {e : Env} {s : State} {m : MethodId} {below : List Frame} {meth : Method} {c : Code} {b L : Nat} {xs : Nat → Int32} {E : EnvT} {ls : Array Slot} {i : Nat} {Q : State → Prop} (C : LWC p s m meth c b L xs E) (hl : lv_has ls 4 (lvL b E i)) (hi : i + 6 ≤ L) : LCS p l e s m below meth c b E ls Q 847 := by
  refine lc_I (clF := m_FN_waiting) (clM := m_Mod_waiting) (js := [1, 2]) (idF := 89) (idM := 92) (kF := 991) (kM := 1824) (off := 1040) C hl hi (by decide) (by decide +kernel) rfl rfl (by decide +kernel) (by decide) (fun M Z A iv => ?_)
  have h := i_waiting (l := l) (E := E) (d := 20) (a := (xs (i + 1)).toInt) (b := (xs (i + 2)).toInt) (Nat.le_refl _) iv (Int32.le_toInt _) (Int32.toInt_lt _) (Int32.le_toInt _) (Int32.toInt_lt _)
  simp only [iN_toInt] at h
  exact h
theorem w_sung {p : Program} {l : Launch} {e : Env} {s : State} {m : MethodId} {below : List Frame} {meth : Method} {c : Code} {b L : Nat} {xs : Nat → Int32} {E : EnvT} {ls : Array Slot} {i : Nat} {Q : State → Prop} (C : LWC p s m meth c b L xs E) (hl : lv_has ls 4 (lvL b E i)) (hi : i + 6 ≤ L) : LCS p l e s m below meth c b E ls Q 880 := by
  refine lc_I (clF := m_FN_sung) (clM := m_Mod_sung) (js := [1, 2]) (idF := 93) (idM := 96) (kF := 995) (kM := 1828) (off := 1007) C hl hi (by decide) (by decide +kernel) rfl rfl (by decide +kernel) (by decide) (fun M Z A iv => ?_)
  have h := i_sung (l := l) (E := E) (d := 20) (a := (xs (i + 1)).toInt) (b := (xs (i + 2)).toInt) (Nat.le_refl _) iv (Int32.le_toInt _) (Int32.toInt_lt _) (Int32.le_toInt _) (Int32.toInt_lt _)
  simp only [iN_toInt] at h
  exact h
theorem w_copySung {p : Program} {l : Launch} {e : Env} {s : State} {m : MethodId} {below : List Frame} {meth : Method} {c : Code} {b L : Nat} {xs : Nat → Int32} {E : EnvT} {ls : Array Slot} {i : Nat} {Q : State → Prop} (C : LWC p s m meth c b L xs E) (hl : lv_has ls 4 (lvL b E i)) (hi : i + 6 ≤ L) : LCS p l e s m below meth c b E ls Q 913 := by
  refine lc_I (clF := m_FN_copySung) (clM := m_Mod_copySung) (js := [1, 2]) (idF := 97) (idM := 100) (kF := 1007) (kM := 1844) (off := 974) C hl hi (by decide) (by decide +kernel) rfl rfl (by decide +kernel) (by decide) (fun M Z A iv => ?_)
  have h := i_copySung (l := l) (E := E) (d := 20) (a := (xs (i + 1)).toInt) (t := (xs (i + 2)).toInt) (Nat.le_refl _) iv (Int32.le_toInt _) (Int32.toInt_lt _) (Int32.le_toInt _) (Int32.toInt_lt _)
  simp only [iN_toInt] at h
  exact h
theorem w_lend {p : Program} {l : Launch} {e : Env} {s : State} {m : MethodId} {below : List Frame} {meth : Method} {c : Code} {b L : Nat} {xs : Nat → Int32} {E : EnvT} {ls : Array Slot} {i : Nat} {Q : State → Prop} (C : LWC p s m meth c b L xs E) (hl : lv_has ls 4 (lvL b E i)) (hi : i + 6 ≤ L) : LCS p l e s m below meth c b E ls Q 946 := by
  refine lc_I (clF := m_FN_lend) (clM := m_Mod_lend) (js := [1, 2, 3]) (idF := 101) (idM := 104) (kF := 1015) (kM := 1848) (off := 931) C hl hi (by decide) (by decide +kernel) rfl rfl (by decide +kernel) (by decide) (fun M Z A iv => ?_)
  have h := i_lend (l := l) (E := E) (d := 20) (a := (xs (i + 1)).toInt) (b := (xs (i + 2)).toInt) (n := (xs (i + 3)).toInt) (Nat.le_refl _) iv (Int32.le_toInt _) (Int32.toInt_lt _) (Int32.le_toInt _) (Int32.toInt_lt _) (Int32.le_toInt _) (Int32.toInt_lt _)
  simp only [iN_toInt] at h
  exact h
theorem w_pay {p : Program} {l : Launch} {e : Env} {s : State} {m : MethodId} {below : List Frame} {meth : Method} {c : Code} {b L : Nat} {xs : Nat → Int32} {E : EnvT} {ls : Array Slot} {i : Nat} {Q : State → Prop} (C : LWC p s m meth c b L xs E) (hl : lv_has ls 4 (lvL b E i)) (hi : i + 6 ≤ L) : LCS p l e s m below meth c b E ls Q 989 := by
  refine lc_I (clF := m_FN_pay) (clM := m_Mod_pay) (js := [1, 2, 3]) (idF := 105) (idM := 108) (kF := 1030) (kM := 1864) (off := 888) C hl hi (by decide) (by decide +kernel) rfl rfl (by decide +kernel) (by decide) (fun M Z A iv => ?_)
  have h := i_pay (l := l) (E := E) (d := 20) (a := (xs (i + 1)).toInt) (b := (xs (i + 2)).toInt) (n := (xs (i + 3)).toInt) (Nat.le_refl _) iv (Int32.le_toInt _) (Int32.toInt_lt _) (Int32.le_toInt _) (Int32.toInt_lt _) (Int32.le_toInt _) (Int32.toInt_lt _)
  simp only [iN_toInt] at h
  exact h
theorem w_chord {p : Program} {l : Launch} {e : Env} {s : State} {m : MethodId} {below : List Frame} {meth : Method} {c : Code} {b L : Nat} {xs : Nat → Int32} {E : EnvT} {ls : Array Slot} {i : Nat} {Q : State → Prop} (C : LWC p s m meth c b L xs E) (hl : lv_has ls 4 (lvL b E i)) (hi : i + 6 ≤ L) : LCS p l e s m below meth c b E ls Q 1032 := by
  refine lc_I (clF := m_FN_chord) (clM := m_Mod_chord) (js := [1, 2]) (idF := 109) (idM := 112) (kF := 1054) (kM := 1889) (off := 855) C hl hi (by decide) (by decide +kernel) rfl rfl (by decide +kernel) (by decide) (fun M Z A iv => ?_)
  have h := i_chord (l := l) (E := E) (d := 20) (a := (xs (i + 1)).toInt) (b := (xs (i + 2)).toInt) (Nat.le_refl _) iv (Int32.le_toInt _) (Int32.toInt_lt _) (Int32.le_toInt _) (Int32.toInt_lt _)
  simp only [iN_toInt] at h
  exact h
theorem w_sunday {p : Program} {l : Launch} {e : Env} {s : State} {m : MethodId} {below : List Frame} {meth : Method} {c : Code} {b L : Nat} {xs : Nat → Int32} {E : EnvT} {ls : Array Slot} {i : Nat} {Q : State → Prop} (C : LWC p s m meth c b L xs E) (hl : lv_has ls 4 (lvL b E i)) (hi : i + 6 ≤ L) : LCS p l e s m below meth c b E ls Q 1065 := by
  refine lc_I (clF := m_FN_sunday) (clM := m_Mod_sunday) (js := []) (idF := 113) (idM := 116) (kF := 1062) (kM := 1897) (off := 842) C hl hi (by decide) (by decide +kernel) rfl rfl (by decide +kernel) (by decide) (fun M Z A iv => ?_)
  have h := i_sunday (l := l) (E := E) (d := 20)  (Nat.le_refl _) iv
  exact h
theorem w_cold {p : Program} {l : Launch} {e : Env} {s : State} {m : MethodId} {below : List Frame} {meth : Method} {c : Code} {b L : Nat} {xs : Nat → Int32} {E : EnvT} {ls : Array Slot} {i : Nat} {Q : State → Prop} (C : LWC p s m meth c b L xs E) (hl : lv_has ls 4 (lvL b E i)) (hi : i + 6 ≤ L) : LCS p l e s m below meth c b E ls Q 1078 := by
  refine lc_I (clF := m_FN_cold) (clM := m_Mod_cold) (js := [1]) (idF := 117) (idM := 120) (kF := 1070) (kM := 1910) (off := 819) C hl hi (by decide) (by decide +kernel) rfl rfl (by decide +kernel) (by decide) (fun M Z A iv => ?_)
  have h := i_cold (l := l) (E := E) (d := 20) (a := (xs (i + 1)).toInt) (Nat.le_refl _) iv (Int32.le_toInt _) (Int32.toInt_lt _)
  simp only [iN_toInt] at h
  exact h
theorem w_well {p : Program} {l : Launch} {e : Env} {s : State} {m : MethodId} {below : List Frame} {meth : Method} {c : Code} {b L : Nat} {xs : Nat → Int32} {E : EnvT} {ls : Array Slot} {i : Nat} {Q : State → Prop} (C : LWC p s m meth c b L xs E) (hl : lv_has ls 4 (lvL b E i)) (hi : i + 6 ≤ L) : LCS p l e s m below meth c b E ls Q 1101 := by
  refine lc_I (clF := m_FN_well) (clM := m_Mod_well) (js := [1]) (idF := 121) (idM := 124) (kF := 1078) (kM := 1918) (off := 796) C hl hi (by decide) (by decide +kernel) rfl rfl (by decide +kernel) (by decide) (fun M Z A iv => ?_)
  have h := i_well (l := l) (E := E) (d := 20) (a := (xs (i + 1)).toInt) (Nat.le_refl _) iv (Int32.le_toInt _) (Int32.toInt_lt _)
  simp only [iN_toInt] at h
  exact h
theorem w_die {p : Program} {l : Launch} {e : Env} {s : State} {m : MethodId} {below : List Frame} {meth : Method} {c : Code} {b L : Nat} {xs : Nat → Int32} {E : EnvT} {ls : Array Slot} {i : Nat} {Q : State → Prop} (C : LWC p s m meth c b L xs E) (hl : lv_has ls 4 (lvL b E i)) (hi : i + 6 ≤ L) : LCS p l e s m below meth c b E ls Q 1124 := by
  refine lc_I (clF := m_FN_die) (clM := m_Mod_die) (js := [1]) (idF := 125) (idM := 128) (kF := 1089) (kM := 1925) (off := 773) C hl hi (by decide) (by decide +kernel) rfl rfl (by decide +kernel) (by decide) (fun M Z A iv => ?_)
  have h := i_die (l := l) (E := E) (d := 20) (a := (xs (i + 1)).toInt) (Nat.le_refl _) iv (Int32.le_toInt _) (Int32.toInt_lt _)
  simp only [iN_toInt] at h
  exact h
theorem w_earn {p : Program} {l : Launch} {e : Env} {s : State} {m : MethodId} {below : List Frame} {meth : Method} {c : Code} {b L : Nat} {xs : Nat → Int32} {E : EnvT} {ls : Array Slot} {i : Nat} {Q : State → Prop} (C : LWC p s m meth c b L xs E) (hl : lv_has ls 4 (lvL b E i)) (hi : i + 6 ≤ L) : LCS p l e s m below meth c b E ls Q 1147 := by
  refine lc_I (clF := m_FN_earn) (clM := m_Mod_earn) (js := [1, 2]) (idF := 129) (idM := 132) (kF := 1114) (kM := 1941) (off := 740) C hl hi (by decide) (by decide +kernel) rfl rfl (by decide +kernel) (by decide) (fun M Z A iv => ?_)
  have h := i_earn (l := l) (E := E) (d := 20) (a := (xs (i + 1)).toInt) (b := (xs (i + 2)).toInt) (Nat.le_refl _) iv (Int32.le_toInt _) (Int32.toInt_lt _) (Int32.le_toInt _) (Int32.toInt_lt _)
  simp only [iN_toInt] at h
  exact h
theorem w_name {p : Program} {l : Launch} {e : Env} {s : State} {m : MethodId} {below : List Frame} {meth : Method} {c : Code} {b L : Nat} {xs : Nat → Int32} {E : EnvT} {ls : Array Slot} {i : Nat} {Q : State → Prop} (C : LWC p s m meth c b L xs E) (hl : lv_has ls 4 (lvL b E i)) (hi : i + 6 ≤ L) : LCS p l e s m below meth c b E ls Q 1180 := by
  refine lc_I (clF := m_FN_name) (clM := m_Mod_name) (js := [1, 2]) (idF := 133) (idM := 137) (kF := 1118) (kM := 1945) (off := 707) C hl hi (by decide) (by decide +kernel) rfl rfl (by decide +kernel) (by decide) (fun M Z A iv => ?_)
  have h := i_name (l := l) (E := E) (d := 20) (a := (xs (i + 1)).toInt) (b := (xs (i + 2)).toInt) (Nat.le_refl _) iv (Int32.le_toInt _) (Int32.toInt_lt _) (Int32.le_toInt _) (Int32.toInt_lt _)
  simp only [iN_toInt] at h
  exact h
theorem w_hum {p : Program} {l : Launch} {e : Env} {s : State} {m : MethodId} {below : List Frame} {meth : Method} {c : Code} {b L : Nat} {xs : Nat → Int32} {E : EnvT} {ls : Array Slot} {i : Nat} {Q : State → Prop} (C : LWC p s m meth c b L xs E) (hl : lv_has ls 4 (lvL b E i)) (hi : i + 6 ≤ L) : LCS p l e s m below meth c b E ls Q 1213 := by
  refine lc_I (clF := m_FN_hum) (clM := m_Mod_hum) (js := [1]) (idF := 138) (idM := 142) (kF := 1122) (kM := 1949) (off := 684) C hl hi (by decide) (by decide +kernel) rfl rfl (by decide +kernel) (by decide) (fun M Z A iv => ?_)
  have h := i_hum (l := l) (E := E) (d := 20) (a := (xs (i + 1)).toInt) (Nat.le_refl _) iv (Int32.le_toInt _) (Int32.toInt_lt _)
  simp only [iN_toInt] at h
  exact h
theorem w_chords {p : Program} {l : Launch} {e : Env} {s : State} {m : MethodId} {below : List Frame} {meth : Method} {c : Code} {b L : Nat} {xs : Nat → Int32} {E : EnvT} {ls : Array Slot} {i : Nat} {Q : State → Prop} (C : LWC p s m meth c b L xs E) (hl : lv_has ls 4 (lvL b E i)) (hi : i + 6 ≤ L) : LCS p l e s m below meth c b E ls Q 1236 := by
  refine lc_I (clF := m_FN_chords) (clM := m_Mod_chords) (js := []) (idF := 143) (idM := 146) (kF := 1126) (kM := 1954) (off := 671) C hl hi (by decide) (by decide +kernel) rfl rfl (by decide +kernel) (by decide) (fun M Z A iv => ?_)
  have h := i_chords (l := l) (E := E) (d := 20)  (Nat.le_refl _) iv
  exact h
theorem w_balance {p : Program} {l : Launch} {e : Env} {s : State} {m : MethodId} {below : List Frame} {meth : Method} {c : Code} {b L : Nat} {xs : Nat → Int32} {E : EnvT} {ls : Array Slot} {i : Nat} {Q : State → Prop} (C : LWC p s m meth c b L xs E) (hl : lv_has ls 4 (lvL b E i)) (hi : i + 6 ≤ L) : LCS p l e s m below meth c b E ls Q 1249 := by
  refine lc_I (clF := m_FN_balance) (clM := m_Mod_balance) (js := [1]) (idF := 147) (idM := 150) (kF := 1135) (kM := 1958) (off := 648) C hl hi (by decide) (by decide +kernel) rfl rfl (by decide +kernel) (by decide) (fun M Z A iv => ?_)
  have h := i_balance (l := l) (E := E) (d := 20) (a := (xs (i + 1)).toInt) (Nat.le_refl _) iv (Int32.le_toInt _) (Int32.toInt_lt _)
  simp only [iN_toInt] at h
  exact h
