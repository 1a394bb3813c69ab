theorem w_payings {p : Program} {l : Launch} {e : Env} {s : State} {m : MethodId} {below : List Frame} {meth : Method} {c : Code} {b L : Nat} {xs : Nat → Int32} {E : EnvT} {ls : Array Slot} {i : Nat} {Q : State → Prop} (C : LWC p s m meth c b L xs E) (hl : lv_has ls 4 (lvL b E i)) (hi : i + 6 ≤ L) : LCS p l e s m below meth c b E ls Q 1272 := by
  refine lc_I (clF := m_FN_payings) (clM := m_Mod_payings) (js := []) (idF := 151) (idM := 154) (kF := 1145) (kM := 1966) (off := 635) C hl hi (by decide) (by decide +kernel) rfl rfl (by decide +kernel) (by decide) (fun M Z A iv => ?_)
  have h := i_payings (l := l) (E := E) (d := 20)  (Nat.le_refl _) iv
  exact h
theorem w_parts {p : Program} {l : Launch} {e : Env} {s : State} {m : MethodId} {below : List Frame} {meth : Method} {c : Code} {b L : Nat} {xs : Nat → Int32} {E : EnvT} {ls : Array Slot} {i : Nat} {Q : State → Prop} (C : LWC p s m meth c b L xs E) (hl : lv_has ls 4 (lvL b E i)) (hi : i + 6 ≤ L) : LCS p l e s m below meth c b E ls Q 1285 := by
  refine lc_I (clF := m_FN_parts) (clM := m_Mod_parts) (js := []) (idF := 155) (idM := 158) (kF := 1175) (kM := 1982) (off := 622) C hl hi (by decide) (by decide +kernel) rfl rfl (by decide +kernel) (by decide) (fun M Z A iv => ?_)
  have h := i_parts (l := l) (E := E) (d := 20)  (Nat.le_refl _) iv
  exact h
theorem w_shorts {p : Program} {l : Launch} {e : Env} {s : State} {m : MethodId} {below : List Frame} {meth : Method} {c : Code} {b L : Nat} {xs : Nat → Int32} {E : EnvT} {ls : Array Slot} {i : Nat} {Q : State → Prop} (C : LWC p s m meth c b L xs E) (hl : lv_has ls 4 (lvL b E i)) (hi : i + 6 ≤ L) : LCS p l e s m below meth c b E ls Q 1298 := by
  refine lc_I (clF := m_FN_shorts) (clM := m_Mod_shorts) (js := []) (idF := 159) (idM := 162) (kF := 1179) (kM := 1986) (off := 609) C hl hi (by decide) (by decide +kernel) rfl rfl (by decide +kernel) (by decide) (fun M Z A iv => ?_)
  have h := i_shorts (l := l) (E := E) (d := 20)  (Nat.le_refl _) iv
  exact h
theorem w_lacking {p : Program} {l : Launch} {e : Env} {s : State} {m : MethodId} {below : List Frame} {meth : Method} {c : Code} {b L : Nat} {xs : Nat → Int32} {E : EnvT} {ls : Array Slot} {i : Nat} {Q : State → Prop} (C : LWC p s m meth c b L xs E) (hl : lv_has ls 4 (lvL b E i)) (hi : i + 6 ≤ L) : LCS p l e s m below meth c b E ls Q 1311 := by
  refine lc_I (clF := m_FN_lacking) (clM := m_Mod_lacking) (js := []) (idF := 163) (idM := 166) (kF := 1188) (kM := 1994) (off := 596) C hl hi (by decide) (by decide +kernel) rfl rfl (by decide +kernel) (by decide) (fun M Z A iv => ?_)
  have h := i_lacking (l := l) (E := E) (d := 20)  (Nat.le_refl _) iv
  exact h
theorem w_richest {p : Program} {l : Launch} {e : Env} {s : State} {m : MethodId} {below : List Frame} {meth : Method} {c : Code} {b L : Nat} {xs : Nat → Int32} {E : EnvT} {ls : Array Slot} {i : Nat} {Q : State → Prop} (C : LWC p s m meth c b L xs E) (hl : lv_has ls 4 (lvL b E i)) (hi : i + 6 ≤ L) : LCS p l e s m below meth c b E ls Q 1324 := by
  refine lc_I (clF := m_FN_richest) (clM := m_Mod_richest) (js := []) (idF := 167) (idM := 170) (kF := 1192) (kM := 1998) (off := 583) C hl hi (by decide) (by decide +kernel) rfl rfl (by decide +kernel) (by decide) (fun M Z A iv => ?_)
  have h := i_richest (l := l) (E := E) (d := 20)  (Nat.le_refl _) iv
  exact h
theorem w_deepest {p : Program} {l : Launch} {e : Env} {s : State} {m : MethodId} {below : List Frame} {meth : Method} {c : Code} {b L : Nat} {xs : Nat → Int32} {E : EnvT} {ls : Array Slot} {i : Nat} {Q : State → Prop} (C : LWC p s m meth c b L xs E) (hl : lv_has ls 4 (lvL b E i)) (hi : i + 6 ≤ L) : LCS p l e s m below meth c b E ls Q 1337 := by
  refine lc_I (clF := m_FN_deepest) (clM := m_Mod_deepest) (js := []) (idF := 171) (idM := 174) (kF := 1208) (kM := 2002) (off := 570) C hl hi (by decide) (by decide +kernel) rfl rfl (by decide +kernel) (by decide) (fun M Z A iv => ?_)
  have h := i_deepest (l := l) (E := E) (d := 20)  (Nat.le_refl _) iv
  exact h
theorem w_bass {p : Program} {l : Launch} {e : Env} {s : State} {m : MethodId} {below : List Frame} {meth : Method} {c : Code} {b L : Nat} {xs : Nat → Int32} {E : EnvT} {ls : Array Slot} {i : Nat} {Q : State → Prop} (C : LWC p s m meth c b L xs E) (hl : lv_has ls 4 (lvL b E i)) (hi : i + 6 ≤ L) : LCS p l e s m below meth c b E ls Q 1350 := by
  refine lc_I (clF := m_FN_bass) (clM := m_Mod_bass) (js := []) (idF := 175) (idM := 179) (kF := 1212) (kM := 2006) (off := 557) C hl hi (by decide) (by decide +kernel) rfl rfl (by decide +kernel) (by decide) (fun M Z A iv => ?_)
  have h := i_bass (l := l) (E := E) (d := 20)  (Nat.le_refl _) iv
  exact h
theorem w_round {p : Program} {l : Launch} {e : Env} {s : State} {m : MethodId} {below : List Frame} {meth : Method} {c : Code} {b L : Nat} {xs : Nat → Int32} {E : EnvT} {ls : Array Slot} {i : Nat} {Q : State → Prop} (C : LWC p s m meth c b L xs E) (hl : lv_has ls 4 (lvL b E i)) (hi : i + 6 ≤ L) : LCS p l e s m below meth c b E ls Q 1363 := by
  refine lc_I (clF := m_FN_round) (clM := m_Mod_round) (js := []) (idF := 180) (idM := 183) (kF := 1220) (kM := 2014) (off := 544) C hl hi (by decide) (by decide +kernel) rfl rfl (by decide +kernel) (by decide) (fun M Z A iv => ?_)
  have h := i_round (l := l) (E := E) (d := 20)  (Nat.le_refl _) iv
  exact h
theorem w_roundAt {p : Program} {l : Launch} {e : Env} {s : State} {m : MethodId} {below : List Frame} {meth : Method} {c : Code} {b L : Nat} {xs : Nat → Int32} {E : EnvT} {ls : Array Slot} {i : Nat} {Q : State → Prop} (C : LWC p s m meth c b L xs E) (hl : lv_has ls 4 (lvL b E i)) (hi : i + 6 ≤ L) : LCS p l e s m below meth c b E ls Q 1376 := by
  refine lc_I (clF := m_FN_roundAt) (clM := m_Mod_roundAt) (js := [1]) (idF := 184) (idM := 187) (kF := 1231) (kM := 2030) (off := 521) C hl hi (by decide) (by decide +kernel) rfl rfl (by decide +kernel) (by decide) (fun M Z A iv => ?_)
  have h := i_roundAt (l := l) (E := E) (d := 20) (a := (xs (i + 1)).toInt) (Nat.le_refl _) iv (Int32.le_toInt _) (Int32.toInt_lt _)
  simp only [iN_toInt] at h
  exact h
theorem w_clear {p : Program} {l : Launch} {e : Env} {s : State} {m : MethodId} {below : List Frame} {meth : Method} {c : Code} {b L : Nat} {xs : Nat → Int32} {E : EnvT} {ls : Array Slot} {i : Nat} {Q : State → Prop} (C : LWC p s m meth c b L xs E) (hl : lv_has ls 4 (lvL b E i)) (hi : i + 6 ≤ L) : LCS p l e s m below meth c b E ls Q 1399 := by
  refine lc_I (clF := m_FN_clear) (clM := m_Mod_clear) (js := []) (idF := 188) (idM := 191) (kF := 1235) (kM := 2034) (off := 508) C hl hi (by decide) (by decide +kernel) rfl rfl (by decide +kernel) (by decide) (fun M Z A iv => ?_)
  have h := i_clear (l := l) (E := E) (d := 20)  (Nat.le_refl _) iv
  exact h
theorem w_ask {p : Program} {l : Launch} {e : Env} {s : State} {m : MethodId} {below : List Frame} {meth : Method} {c : Code} {b L : Nat} {xs : Nat → Int32} {E : EnvT} {ls : Array Slot} {i : Nat} {Q : State → Prop} (C : LWC p s m meth c b L xs E) (hl : lv_has ls 4 (lvL b E i)) (hi : i + 6 ≤ L) : LCS p l e s m below meth c b E ls Q 1412 := by
  refine lc_I (clF := m_FN_ask) (clM := m_Mod_ask) (js := []) (idF := 192) (idM := 195) (kF := 1243) (kM := 2038) (off := 495) C hl hi (by decide) (by decide +kernel) rfl rfl (by decide +kernel) (by decide) (fun M Z A iv => ?_)
  have h := i_ask (l := l) (E := E) (d := 20)  (Nat.le_refl _) iv
  exact h
theorem w_askSet {p : Program} {l : Launch} {e : Env} {s : State} {m : MethodId} {below : List Frame} {meth : Method} {c : Code} {b L : Nat} {xs : Nat → Int32} {E : EnvT} {ls : Array Slot} {i : Nat} {Q : State → Prop} (C : LWC p s m meth c b L xs E) (hl : lv_has ls 4 (lvL b E i)) (hi : i + 6 ≤ L) : LCS p l e s m below meth c b E ls Q 1425 := by
  refine lc_I (clF := m_FN_askSet) (clM := m_Mod_askSet) (js := []) (idF := 196) (idM := 199) (kF := 1255) (kM := 2046) (off := 482) C hl hi (by decide) (by decide +kernel) rfl rfl (by decide +kernel) (by decide) (fun M Z A iv => ?_)
  have h := i_askSet (l := l) (E := E) (d := 20)  (Nat.le_refl _) iv
  exact h
theorem w_chain {p : Program} {l : Launch} {e : Env} {s : State} {m : MethodId} {below : List Frame} {meth : Method} {c : Code} {b L : Nat} {xs : Nat → Int32} {E : EnvT} {ls : Array Slot} {i : Nat} {Q : State → Prop} (C : LWC p s m meth c b L xs E) (hl : lv_has ls 4 (lvL b E i)) (hi : i + 6 ≤ L) : LCS p l e s m below meth c b E ls Q 1438 := by
  refine lc_I (clF := m_FN_chain) (clM := m_Mod_chain) (js := []) (idF := 200) (idM := 203) (kF := 1259) (kM := 2050) (off := 469) C hl hi (by decide) (by decide +kernel) rfl rfl (by decide +kernel) (by decide) (fun M Z A iv => ?_)
  have h := i_chain (l := l) (E := E) (d := 20)  (Nat.le_refl _) iv
  exact h
theorem w_behind {p : Program} {l : Launch} {e : Env} {s : State} {m : MethodId} {below : List Frame} {meth : Method} {c : Code} {b L : Nat} {xs : Nat → Int32} {E : EnvT} {ls : Array Slot} {i : Nat} {Q : State → Prop} (C : LWC p s m meth c b L xs E) (hl : lv_has ls 4 (lvL b E i)) (hi : i + 6 ≤ L) : LCS p l e s m below meth c b E ls Q 1451 := by
  refine lc_I (clF := m_FN_behind) (clM := m_Mod_behind) (js := [1]) (idF := 204) (idM := 207) (kF := 1272) (kM := 2054) (off := 446) C hl hi (by decide) (by decide +kernel) rfl rfl (by decide +kernel) (by decide) (fun M Z A iv => ?_)
  have h := i_behind (l := l) (E := E) (d := 20) (a := (xs (i + 1)).toInt) (Nat.le_refl _) iv (Int32.le_toInt _) (Int32.toInt_lt _)
  simp only [iN_toInt] at h
  exact h
theorem w_free {p : Program} {l : Launch} {e : Env} {s : State} {m : MethodId} {below : List Frame} {meth : Method} {c : Code} {b L : Nat} {xs : Nat → Int32} {E : EnvT} {ls : Array Slot} {i : Nat} {Q : State → Prop} (C : LWC p s m meth c b L xs E) (hl : lv_has ls 4 (lvL b E i)) (hi : i + 6 ≤ L) : LCS p l e s m below meth c b E ls Q 1474 := by
  refine lc_I (clF := m_FN_free) (clM := m_Mod_free) (js := [1]) (idF := 208) (idM := 211) (kF := 1280) (kM := 2058) (off := 423) C hl hi (by decide) (by decide +kernel) rfl rfl (by decide +kernel) (by decide) (fun M Z A iv => ?_)
  have h := i_free (l := l) (E := E) (d := 20) (a := (xs (i + 1)).toInt) (Nat.le_refl _) iv (Int32.le_toInt _) (Int32.toInt_lt _)
  simp only [iN_toInt] at h
  exact h
theorem w_queue {p : Program} {l : Launch} {e : Env} {s : State} {m : MethodId} {below : List Frame} {meth : Method} {c : Code} {b L : Nat} {xs : Nat → Int32} {E : EnvT} {ls : Array Slot} {i : Nat} {Q : State → Prop} (C : LWC p s m meth c b L xs E) (hl : lv_has ls 4 (lvL b E i)) (hi : i + 6 ≤ L) : LCS p l e s m below meth c b E ls Q 1497 := by
  refine lc_I (clF := m_FN_queue) (clM := m_Mod_queue) (js := [1]) (idF := 212) (idM := 215) (kF := 1284) (kM := 2066) (off := 400) C hl hi (by decide) (by decide +kernel) rfl rfl (by decide +kernel) (by decide) (fun M Z A iv => ?_)
  have h := i_queue (l := l) (E := E) (d := 20) (a := (xs (i + 1)).toInt) (Nat.le_refl _) iv (Int32.le_toInt _) (Int32.toInt_lt _)
  simp only [iN_toInt] at h
  exact h
theorem w_roomiest {p : Program} {l : Launch} {e : Env} {s : State} {m : MethodId} {below : List Frame} {meth : Method} {c : Code} {b L : Nat} {xs : Nat → Int32} {E : EnvT} {ls : Array Slot} {i : Nat} {Q : State → Prop} (C : LWC p s m meth c b L xs E) (hl : lv_has ls 4 (lvL b E i)) (hi : i + 6 ≤ L) : LCS p l e s m below meth c b E ls Q 1520 := by
  refine lc_I (clF := m_FN_roomiest) (clM := m_Mod_roomiest) (js := []) (idF := 216) (idM := 219) (kF := 1292) (kM := 2070) (off := 387) C hl hi (by decide) (by decide +kernel) rfl rfl (by decide +kernel) (by decide) (fun M Z A iv => ?_)
  have h := i_roomiest (l := l) (E := E) (d := 20)  (Nat.le_refl _) iv
  exact h
theorem w_falsest {p : Program} {l : Launch} {e : Env} {s : State} {m : MethodId} {below : List Frame} {meth : Method} {c : Code} {b L : Nat} {xs : Nat → Int32} {E : EnvT} {ls : Array Slot} {i : Nat} {Q : State → Prop} (C : LWC p s m meth c b L xs E) (hl : lv_has ls 4 (lvL b E i)) (hi : i + 6 ≤ L) : LCS p l e s m below meth c b E ls Q 1533 := by
  refine lc_I (clF := m_FN_falsest) (clM := m_Mod_falsest) (js := [1]) (idF := 220) (idM := 223) (kF := 1296) (kM := 2074) (off := 364) C hl hi (by decide) (by decide +kernel) rfl rfl (by decide +kernel) (by decide) (fun M Z A iv => ?_)
  have h := i_falsest (l := l) (E := E) (d := 20) (a := (xs (i + 1)).toInt) (Nat.le_refl _) iv (Int32.le_toInt _) (Int32.toInt_lt _)
  simp only [iN_toInt] at h
  exact h
theorem w_heard {p : Program} {l : Launch} {e : Env} {s : State} {m : MethodId} {below : List Frame} {meth : Method} {c : Code} {b L : Nat} {xs : Nat → Int32} {E : EnvT} {ls : Array Slot} {i : Nat} {Q : State → Prop} (C : LWC p s m meth c b L xs E) (hl : lv_has ls 4 (lvL b E i)) (hi : i + 6 ≤ L) : LCS p l e s m below meth c b E ls Q 1556 := by
  refine lc_I (clF := m_FN_heard) (clM := m_Mod_heard) (js := [1, 2]) (idF := 224) (idM := 227) (kF := 1300) (kM := 2078) (off := 331) C hl hi (by decide) (by decide +kernel) rfl rfl (by decide +kernel) (by decide) (fun M Z A iv => ?_)
  have h := i_heard (l := l) (E := E) (d := 20) (a := (xs (i + 1)).toInt) (t := (xs (i + 2)).toInt) (Nat.le_refl _) iv (Int32.le_toInt _) (Int32.toInt_lt _) (Int32.le_toInt _) (Int32.toInt_lt _)
  simp only [iN_toInt] at h
  exact h
theorem w_transposed {p : Program} {l : Launch} {e : Env} {s : State} {m : MethodId} {below : List Frame} {meth : Method} {c : Code} {b L : Nat} {xs : Nat → Int32} {E : EnvT} {ls : Array Slot} {i : Nat} {Q : State → Prop} (C : LWC p s m meth c b L xs E) (hl : lv_has ls 4 (lvL b E i)) (hi : i + 6 ≤ L) : LCS p l e s m below meth c b E ls Q 1589 := by
  refine lc_I (clF := m_FN_transposed) (clM := m_Mod_transposed) (js := [1, 2]) (idF := 228) (idM := 231) (kF := 1314) (kM := 2088) (off := 298) C hl hi (by decide) (by decide +kernel) rfl rfl (by decide +kernel) (by decide) (fun M Z A iv => ?_)
  have h := i_transposed (l := l) (E := E) (d := 20) (a := (xs (i + 1)).toInt) (t := (xs (i + 2)).toInt) (Nat.le_refl _) iv (Int32.le_toInt _) (Int32.toInt_lt _) (Int32.le_toInt _) (Int32.toInt_lt _)
  simp only [iN_toInt] at h
  exact h
theorem w_forged {p : Program} {l : Launch} {e : Env} {s : State} {m : MethodId} {below : List Frame} {meth : Method} {c : Code} {b L : Nat} {xs : Nat → Int32} {E : EnvT} {ls : Array Slot} {i : Nat} {Q : State → Prop} (C : LWC p s m meth c b L xs E) (hl : lv_has ls 4 (lvL b E i)) (hi : i + 6 ≤ L) : LCS p l e s m below meth c b E ls Q 1622 := by
  refine lc_I (clF := m_FN_forged) (clM := m_Mod_forged) (js := [1, 2]) (idF := 232) (idM := 235) (kF := 1318) (kM := 2096) (off := 265) C hl hi (by decide) (by decide +kernel) rfl rfl (by decide +kernel) (by decide) (fun M Z A iv => ?_)
  have h := i_forged (l := l) (E := E) (d := 20) (a := (xs (i + 1)).toInt) (t := (xs (i + 2)).toInt) (Nat.le_refl _) iv (Int32.le_toInt _) (Int32.toInt_lt _) (Int32.le_toInt _) (Int32.toInt_lt _)
  simp only [iN_toInt] at h
  exact h
theorem w_whose {p : Program} {l : Launch} {e : Env} {s : State} {m : MethodId} {below : List Frame} {meth : Method} {c : Code} {b L : Nat} {xs : Nat → Int32} {E : EnvT} {ls : Array Slot} {i : Nat} {Q : State → Prop} (C : LWC p s m meth c b L xs E) (hl : lv_has ls 4 (lvL b E i)) (hi : i + 6 ≤ L) : LCS p l e s m below meth c b E ls Q 1655 := by
  refine lc_I (clF := m_FN_whose) (clM := m_Mod_whose) (js := [1, 2]) (idF := 236) (idM := 239) (kF := 1322) (kM := 2100) (off := 232) C hl hi (by decide) (by decide +kernel) rfl rfl (by decide +kernel) (by decide) (fun M Z A iv => ?_)
  have h := i_whose (l := l) (E := E) (d := 20) (a := (xs (i + 1)).toInt) (b := (xs (i + 2)).toInt) (Nat.le_refl _) iv (Int32.le_toInt _) (Int32.toInt_lt _) (Int32.le_toInt _) (Int32.toInt_lt _)
  simp only [iN_toInt] at h
  exact h
theorem w_grows {p : Program} {l : Launch} {e : Env} {s : State} {m : MethodId} {below : List Frame} {meth : Method} {c : Code} {b L : Nat} {xs : Nat → Int32} {E : EnvT} {ls : Array Slot} {i : Nat} {Q : State → Prop} (C : LWC p s m meth c b L xs E) (hl : lv_has ls 4 (lvL b E i)) (hi : i + 6 ≤ L) : LCS p l e s m below meth c b E ls Q 1688 := by
  refine lc_I (clF := m_FN_grows) (clM := m_Mod_grows) (js := [1, 2]) (idF := 240) (idM := 243) (kF := 1326) (kM := 2104) (off := 199) C hl hi (by decide) (by decide +kernel) rfl rfl (by decide +kernel) (by decide) (fun M Z A iv => ?_)
  have h := i_grows (l := l) (E := E) (d := 20) (a := (xs (i + 1)).toInt) (b := (xs (i + 2)).toInt) (Nat.le_refl _) iv (Int32.le_toInt _) (Int32.toInt_lt _) (Int32.le_toInt _) (Int32.toInt_lt _)
  simp only [iN_toInt] at h
  exact h
theorem w_before {p : Program} {l : Launch} {e : Env} {s : State} {m : MethodId} {below : List Frame} {meth : Method} {c : Code} {b L : Nat} {xs : Nat → Int32} {E : EnvT} {ls : Array Slot} {i : Nat} {Q : State → Prop} (C : LWC p s m meth c b L xs E) (hl : lv_has ls 4 (lvL b E i)) (hi : i + 6 ≤ L) : LCS p l e s m below meth c b E ls Q 1721 := by
  refine lc_I (clF := m_FN_before) (clM := m_Mod_before) (js := [1, 2]) (idF := 244) (idM := 247) (kF := 1337) (kM := 2115) (off := 166) C hl hi (by decide) (by decide +kernel) rfl rfl (by decide +kernel) (by decide) (fun M Z A iv => ?_)
  have h := i_before (l := l) (E := E) (d := 20) (a := (xs (i + 1)).toInt) (b := (xs (i + 2)).toInt) (Nat.le_refl _) iv (Int32.le_toInt _) (Int32.toInt_lt _) (Int32.le_toInt _) (Int32.toInt_lt _)
  simp only [iN_toInt] at h
  exact h
theorem w_when {p : Program} {l : Launch} {e : Env} {s : State} {m : MethodId} {below : List Frame} {meth : Method} {c : Code} {b L : Nat} {xs : Nat → Int32} {E : EnvT} {ls : Array Slot} {i : Nat} {Q : State → Prop} (C : LWC p s m meth c b L xs E) (hl : lv_has ls 4 (lvL b E i)) (hi : i + 6 ≤ L) : LCS p l e s m below meth c b E ls Q 1754 := by
  refine lc_I (clF := m_FN_when) (clM := m_Mod_when) (js := [1, 2]) (idF := 248) (idM := 251) (kF := 1341) (kM := 2119) (off := 133) C hl hi (by decide) (by decide +kernel) rfl rfl (by decide +kernel) (by decide) (fun M Z A iv => ?_)
  have h := i_when (l := l) (E := E) (d := 20) (a := (xs (i + 1)).toInt) (b := (xs (i + 2)).toInt) (Nat.le_refl _) iv (Int32.le_toInt _) (Int32.toInt_lt _) (Int32.le_toInt _) (Int32.toInt_lt _)
  simp only [iN_toInt] at h
  exact h
theorem w_owedIn {p : Program} {l : Launch} {e : Env} {s : State} {m : MethodId} {below : List Frame} {meth : Method} {c : Code} {b L : Nat} {xs : Nat → Int32} {E : EnvT} {ls : Array Slot} {i : Nat} {Q : State → Prop} (C : LWC p s m meth c b L xs E) (hl : lv_has ls 4 (lvL b E i)) (hi : i + 6 ≤ L) : LCS p l e s m below meth c b E ls Q 1787 := by
  refine lc_I (clF := m_FN_owedIn) (clM := m_Mod_owedIn) (js := [1]) (idF := 252) (idM := 255) (kF := 1346) (kM := 2123) (off := 110) C hl hi (by decide) (by decide +kernel) rfl rfl (by decide +kernel) (by decide) (fun M Z A iv => ?_)
  have h := i_owedIn (l := l) (E := E) (d := 20) (a := (xs (i + 1)).toInt) (Nat.le_refl _) iv (Int32.le_toInt _) (Int32.toInt_lt _)
  simp only [iN_toInt] at h
  exact h
theorem w_live {p : Program} {l : Launch} {e : Env} {s : State} {m : MethodId} {below : List Frame} {meth : Method} {c : Code} {b L : Nat} {xs : Nat → Int32} {E : EnvT} {ls : Array Slot} {i : Nat} {Q : State → Prop} (C : LWC p s m meth c b L xs E) (hl : lv_has ls 4 (lvL b E i)) (hi : i + 6 ≤ L) : LCS p l e s m below meth c b E ls Q 1810 := by
  refine lc_I (clF := m_FN_live) (clM := m_Mod_live) (js := [1]) (idF := 256) (idM := 259) (kF := 1351) (kM := 2127) (off := 87) C hl hi (by decide) (by decide +kernel) rfl rfl (by decide +kernel) (by decide) (fun M Z A iv => ?_)
  have h := i_live (l := l) (E := E) (d := 20) (a := (xs (i + 1)).toInt) (Nat.le_refl _) iv (Int32.le_toInt _) (Int32.toInt_lt _)
  simp only [iN_toInt] at h
  exact h
theorem w_lived {p : Program} {l : Launch} {e : Env} {s : State} {m : MethodId} {below : List Frame} {meth : Method} {c : Code} {b L : Nat} {xs : Nat → Int32} {E : EnvT} {ls : Array Slot} {i : Nat} {Q : State → Prop} (C : LWC p s m meth c b L xs E) (hl : lv_has ls 4 (lvL b E i)) (hi : i + 6 ≤ L) : LCS p l e s m below meth c b E ls Q 1833 := by
  refine lc_I (clF := m_FN_lived) (clM := m_Mod_lived) (js := [1]) (idF := 260) (idM := 263) (kF := 1397) (kM := 2169) (off := 64) C hl hi (by decide) (by decide +kernel) rfl rfl (by decide +kernel) (by decide) (fun M Z A iv => ?_)
  have h := i_lived (l := l) (E := E) (d := 20) (a := (xs (i + 1)).toInt) (Nat.le_refl _) iv (Int32.le_toInt _) (Int32.toInt_lt _)
  simp only [iN_toInt] at h
  exact h
theorem w_mean {p : Program} {l : Launch} {e : Env} {s : State} {m : MethodId} {below : List Frame} {meth : Method} {c : Code} {b L : Nat} {xs : Nat → Int32} {E : EnvT} {ls : Array Slot} {i : Nat} {Q : State → Prop} (C : LWC p s m meth c b L xs E) (hl : lv_has ls 4 (lvL b E i)) (hi : i + 6 ≤ L) : LCS p l e s m below meth c b E ls Q 1856 := by
  refine lc_I (clF := m_FN_mean) (clM := m_Mod_mean) (js := [1, 2]) (idF := 264) (idM := 267) (kF := 1401) (kM := 2173) (off := 31) C hl hi (by decide) (by decide +kernel) rfl rfl (by decide +kernel) (by decide) (fun M Z A iv => ?_)
  have h := i_mean (l := l) (E := E) (d := 20) (a := (xs (i + 1)).toInt) (n := (xs (i + 2)).toInt) (Nat.le_refl _) iv (Int32.le_toInt _) (Int32.toInt_lt _) (Int32.le_toInt _) (Int32.toInt_lt _)
  simp only [iN_toInt] at h
  exact h
theorem w_mark {p : Program} {l : Launch} {e : Env} {s : State} {m : MethodId} {below : List Frame} {meth : Method} {c : Code} {b L : Nat} {xs : Nat → Int32} {E : EnvT} {ls : Array Slot} {i : Nat} {Q : State → Prop} (C : LWC p s m meth c b L xs E) (hl : lv_has ls 4 (lvL b E i)) (hi : i + 6 ≤ L) : LCS p l e s m below meth c b E ls Q 1889 := by
  refine lc_I (clF := m_FN_mark) (clM := m_Mod_mark) (js := []) (idF := 268) (idM := 271) (kF := 1415) (kM := 2178) (off := 18) C hl hi (by decide) (by decide +kernel) rfl rfl (by decide +kernel) (by decide) (fun M Z A iv => ?_)
  have h := i_mark (l := l) (E := E) (d := 20)  (Nat.le_refl _) iv
  exact h
theorem w_undo {p : Program} {l : Launch} {e : Env} {s : State} {m : MethodId} {below : List Frame} {meth : Method} {c : Code} {b L : Nat} {xs : Nat → Int32} {E : EnvT} {ls : Array Slot} {i : Nat} {Q : State → Prop} (C : LWC p s m meth c b L xs E) (hl : lv_has ls 4 (lvL b E i)) (hi : i + 6 ≤ L) : LCS p l e s m below meth c b E ls Q 1902 := by
  refine lc_I (clF := m_FN_undo) (clM := m_Mod_undo) (js := []) (idF := 272) (idM := 275) (kF := 1429) (kM := 2186) (off := 5) C hl hi (by decide) (by decide +kernel) rfl rfl (by decide +kernel) (by decide) (fun M Z A iv => ?_)
  have h := i_undo (l := l) (E := E) (d := 20)  (Nat.le_refl _) iv
  exact h
