def PCL : List Nat := [296, 309, 323, 337, 380, 453, 487, 550, 613, 636, 659, 682, 705, 738, 771, 814, 847, 880, 913, 946, 989, 1032, 1065, 1078, 1101, 1124, 1147, 1180, 1213, 1236, 1249, 1272, 1285, 1298, 1311, 1324, 1337, 1350, 1363, 1376, 1399, 1412, 1425, 1438, 1451, 1474, 1497, 1520, 1533, 1556, 1589, 1622, 1655, 1688, 1721, 1754, 1787, 1810, 1833, 1856, 1889, 1902]
def offsL : Array Int := #[263, 276, 290, 304, 347, 420, 454, 517, 580, 603, 626, 649, 672, 705, 738, 781, 814, 847, 880, 913, 956, 999, 1032, 1045, 1068, 1091, 1114, 1147, 1180, 1203, 1216, 1239, 1252, 1265, 1278, 1291, 1304, 1317, 1330, 1343, 1366, 1379, 1392, 1405, 1418, 1441, 1464, 1487, 1500, 1523, 1556, 1589, 1622, 1655, 1688, 1721, 1754, 1777, 1800, 1823, 1856, 1869]
theorem sw_33 : decode code 33 = .ok (.tableswitch 1882 0 61 offsL, 263) := by decide +kernel
theorem sw_in : ∀ j, j < 62 → PCL.getD j 0 ∈ PCL ∧ offsL[j]? = some ((PCL.getD j 0 : Int) - 33) := by decide +kernel
theorem w_all {p : Program} {l : Launch} {e : Env} {s : State} {m : MethodId} {below : List Frame} {meth : Method} {c : Code} {b L : Nat} {xs : Nat → Int32} {E : EnvT} {ls : Array Slot} {i : Nat} {Q : State → Prop} (C : LWC p s m meth c b L xs E) (hl : lv_has ls 4 (lvL b E i)) (hi : i + 6 ≤ L) : ∀ pc ∈ PCL, LCS p l e s m below meth c b E ls Q pc :=
  List.forall_mem_cons.mpr ⟨w_status C hl hi, List.forall_mem_cons.mpr ⟨w_top C hl hi, List.forall_mem_cons.mpr ⟨w_bottom C hl hi, List.forall_mem_cons.mpr ⟨w_tray C hl hi, List.forall_mem_cons.mpr ⟨w_write C hl hi, List.forall_mem_cons.mpr ⟨w_read C hl hi, List.forall_mem_cons.mpr ⟨w_pour C hl hi, List.forall_mem_cons.mpr ⟨w_feed C hl hi, List.forall_mem_cons.mpr ⟨w_choir C hl hi, List.forall_mem_cons.mpr ⟨w_years C hl hi, List.forall_mem_cons.mpr ⟨w_fault C hl hi, List.forall_mem_cons.mpr ⟨w_told C hl hi, List.forall_mem_cons.mpr ⟨w_singer C hl hi, List.forall_mem_cons.mpr ⟨w_line C hl hi, List.forall_mem_cons.mpr ⟨w_held C hl hi, List.forall_mem_cons.mpr ⟨w_owed C hl hi, List.forall_mem_cons.mpr ⟨w_waiting C hl hi, List.forall_mem_cons.mpr ⟨w_sung C hl hi, List.forall_mem_cons.mpr ⟨w_copySung C hl hi, List.forall_mem_cons.mpr ⟨w_lend C hl hi, List.forall_mem_cons.mpr ⟨w_pay C hl hi, List.forall_mem_cons.mpr ⟨w_chord C hl hi, List.forall_mem_cons.mpr ⟨w_sunday C hl hi, List.forall_mem_cons.mpr ⟨w_cold C hl hi, List.forall_mem_cons.mpr ⟨w_well C hl hi, List.forall_mem_cons.mpr ⟨w_die C hl hi, List.forall_mem_cons.mpr ⟨w_earn C hl hi, List.forall_mem_cons.mpr ⟨w_name C hl hi, List.forall_mem_cons.mpr ⟨w_hum C hl hi, List.forall_mem_cons.mpr ⟨w_chords C hl hi, List.forall_mem_cons.mpr ⟨w_balance C hl hi, List.forall_mem_cons.mpr ⟨w_payings C hl hi, List.forall_mem_cons.mpr ⟨w_parts C hl hi, List.forall_mem_cons.mpr ⟨w_shorts C hl hi, List.forall_mem_cons.mpr ⟨w_lacking C hl hi, List.forall_mem_cons.mpr ⟨w_richest C hl hi, List.forall_mem_cons.mpr ⟨w_deepest C hl hi, List.forall_mem_cons.mpr ⟨w_bass C hl hi, List.forall_mem_cons.mpr ⟨w_round C hl hi, List.forall_mem_cons.mpr ⟨w_roundAt C hl hi, List.forall_mem_cons.mpr ⟨w_clear C hl hi, List.forall_mem_cons.mpr ⟨w_ask C hl hi, List.forall_mem_cons.mpr ⟨w_askSet C hl hi, List.forall_mem_cons.mpr ⟨w_chain C hl hi, List.forall_mem_cons.mpr ⟨w_behind C hl hi, List.forall_mem_cons.mpr ⟨w_free C hl hi, List.forall_mem_cons.mpr ⟨w_queue C hl hi, List.forall_mem_cons.mpr ⟨w_roomiest C hl hi, List.forall_mem_cons.mpr ⟨w_falsest C hl hi, List.forall_mem_cons.mpr ⟨w_heard C hl hi, List.forall_mem_cons.mpr ⟨w_transposed C hl hi, List.forall_mem_cons.mpr ⟨w_forged C hl hi, List.forall_mem_cons.mpr ⟨w_whose C hl hi, List.forall_mem_cons.mpr ⟨w_grows C hl hi, List.forall_mem_cons.mpr ⟨w_before C hl hi, List.forall_mem_cons.mpr ⟨w_when C hl hi, List.forall_mem_cons.mpr ⟨w_owedIn C hl hi, List.forall_mem_cons.mpr ⟨w_live C hl hi, List.forall_mem_cons.mpr ⟨w_lived C hl hi, List.forall_mem_cons.mpr ⟨w_mean C hl hi, List.forall_mem_cons.mpr ⟨w_mark C hl hi, List.forall_mem_cons.mpr ⟨w_undo C hl hi, fun _ h => absurd h List.not_mem_nil⟩⟩⟩⟩⟩⟩⟩⟩⟩⟩⟩⟩⟩⟩⟩⟩⟩⟩⟩⟩⟩⟩⟩⟩⟩⟩⟩⟩⟩⟩⟩⟩⟩⟩⟩⟩⟩⟩⟩⟩⟩⟩⟩⟩⟩⟩⟩⟩⟩⟩⟩⟩⟩⟩⟩⟩⟩⟩⟩⟩⟩⟩
theorem law_loop {p : Program} {l : Launch} {e : Env} {s : State} {m : MethodId} {below : List Frame} {meth : Method} {c : Code} {b L : Nat} {xs : Nat → Int32} {E : EnvT} (C : LWC p s m meth c b L xs E) :
    ∀ (n i : Nat), L ≤ i + n → i ≤ L + 5 → ∀ (M : Mem) (Z : Ch) (A : Nat → Int) (H : Heap) (locs : List Loc) (ls : Array Slot), IV M Z A → HX E (zA M Z A) H → va_S (Ab E) s.heap H locs → lv_has ls 4 (lvL b E i) → W p l e room_1 s m #[Value.ref b] below meth c H locs 153 11168 (lw_Z below #[Value.ref b] s) (F0 m 18 ls []) := by
  intro n
  induction n with
  | zero =>
    intro i hin hi5 M Z A H locs ls iv hH hS hl
    obtain ⟨S, hKK, hDX, hbs, hX, hbl, hL, hr, hlk⟩ := id C
    have hbA : ¬ Ab E b := by
      show ¬ eB E ≤ b
      omega
    refine lv_iload_n S.1 S.2.1 (show decode code 18 = .ok (.iload_n 3, 1) by decide +kernel) rfl (lv_at hl 0 rfl) ?_
    refine lv_aload_n S.1 S.2.1 (show decode code 19 = .ok (.aload_n 0, 1) by decide +kernel) rfl (lv_at hl 3 rfl) ?_
    refine va_slen S.1 S.2.1 hX hbl hbA hS (show decode code 20 = .ok (.arraylength, 1) by decide +kernel) ?_
    refine lv_bipush (v := iN 6) S.1 S.2.1 (show decode code 21 = .ok (.bipush 6, 2) by decide +kernel) (by decide +kernel) ?_
    refine lv_isub S.1 S.2.1 (show decode code 23 = .ok (.isub, 1) by decide +kernel) ?_
    rw [show Int32.ofNat L = iN (L : Int) from Int32.ofInt_eq_ofNat.symm, iN_sub]
    refine lv_icmp_gt (tgt := 1921) S.1 S.2.1 (show decode code 24 = .ok (.if_icmp .gt 1897, 3) by decide +kernel) (by decide) (fun c_1 => ?_) (fun c_1 => ?_)
    · refine lv_iconst (v := 1) S.1 S.2.1 (show decode code 1921 = .ok (.iconst 1, 1) by decide +kernel) (by decide) ?_
      refine va_forget (fun q hq => by rw [← hbs]; exact hS.2.2 q hq) ?_
      refine W.widen (k := 600000) (n := 7302250) (Nat.le_of_ble_eq_true rfl) (Nat.le_of_ble_eq_true rfl) ?_
      exact lw_ret S.1 S.2.1 hr hlk (show decode code 1922 = .ok (.ireturn, 1) by decide +kernel)
    · rw [iN_lt (by omega) (by omega) (by omega) (by omega)] at c_1
      have hi : i + 6 ≤ L := by omega
      omega
  | succ n ih =>
    intro i hin hi5 M Z A H locs ls iv hH hS hl
    obtain ⟨S, hKK, hDX, hbs, hX, hbl, hL, hr, hlk⟩ := id C
    have hbA : ¬ Ab E b := by
      show ¬ eB E ≤ b
      omega
    refine lv_iload_n S.1 S.2.1 (show decode code 18 = .ok (.iload_n 3, 1) by decide +kernel) rfl (lv_at hl 0 rfl) ?_
    refine lv_aload_n S.1 S.2.1 (show decode code 19 = .ok (.aload_n 0, 1) by decide +kernel) rfl (lv_at hl 3 rfl) ?_
    refine va_slen S.1 S.2.1 hX hbl hbA hS (show decode code 20 = .ok (.arraylength, 1) by decide +kernel) ?_
    refine lv_bipush (v := iN 6) S.1 S.2.1 (show decode code 21 = .ok (.bipush 6, 2) by decide +kernel) (by decide +kernel) ?_
    refine lv_isub S.1 S.2.1 (show decode code 23 = .ok (.isub, 1) by decide +kernel) ?_
    rw [show Int32.ofNat L = iN (L : Int) from Int32.ofInt_eq_ofNat.symm, iN_sub]
    refine lv_icmp_gt (tgt := 1921) S.1 S.2.1 (show decode code 24 = .ok (.if_icmp .gt 1897, 3) by decide +kernel) (by decide) (fun c_1 => ?_) (fun c_1 => ?_)
    · refine lv_iconst (v := 1) S.1 S.2.1 (show decode code 1921 = .ok (.iconst 1, 1) by decide +kernel) (by decide) ?_
      refine va_forget (fun q hq => by rw [← hbs]; exact hS.2.2 q hq) ?_
      refine W.widen (k := 600000) (n := 7302250) (Nat.le_of_ble_eq_true rfl) (Nat.le_of_ble_eq_true rfl) ?_
      exact lw_ret S.1 S.2.1 hr hlk (show decode code 1922 = .ok (.ireturn, 1) by decide +kernel)
    · rw [iN_lt (by omega) (by omega) (by omega) (by omega)] at c_1
      have hi : i + 6 ≤ L := by omega
      refine lv_aload_n S.1 S.2.1 (show decode code 27 = .ok (.aload_n 0, 1) by decide +kernel) rfl (lv_at hl 3 rfl) ?_
      refine lv_iload_n S.1 S.2.1 (show decode code 28 = .ok (.iload_n 3, 1) by decide +kernel) rfl (lv_at hl 0 rfl) ?_
      refine va_sld S.1 S.2.1 hX hbl hbA hS (iN_in (by omega) (by omega) (by omega)) (show decode code 29 = .ok (.iaload, 1) by decide +kernel) ?_
      refine lv_bipush (v := 63) S.1 S.2.1 (show decode code 30 = .ok (.bipush 63, 2) by decide +kernel) (by decide +kernel) ?_
      refine lv_iand S.1 S.2.1 (show decode code 32 = .ok (.iand, 1) by decide +kernel) ?_
      obtain ⟨j, hj, ej⟩ := pk_andE (xs (iN (i : Int)).toNatClampNeg) (m := 63) 6 (by decide +kernel)
      rw [ej]
      have hji : (nI j).toInt = (j : Int) := nI_toInt (by omega)
      have go : ∀ (M' : Mem) (Z' : Ch) (A' : Nat → Int) (H' : Heap) (locs' : List Loc), IV M' Z' A' → HX E (zA M' Z' A') H' → va_S (Ab E) s.heap H' locs' → W p l e room_1 s m #[Value.ref b] below meth c H' locs' 153 11168 (lw_Z below #[Value.ref b] s) (F0 m 1915 ls []) := by
        intro M' Z' A' H' locs' iv' hH' hS'
        refine lv_iinc (v := iN ((i + 6 : Nat) : Int)) (lv' := lvL b E (i + 6)) S.1 S.2.1 (show decode code 1915 = .ok (.iinc 3 6, 3) by decide +kernel) hl (k := 0) rfl ?_ (by decide) rfl (fun ls' hl' => ?_)
        · show iN (i : Int) + iN 6 = _
          rw [iN_add]
          congr 1
        · refine lv_goto (tgt := 18) S.1 S.2.1 (show decode code 1918 = .ok (.goto (-1900), 3) by decide +kernel) (by decide) ?_
          exact ih (i + 6) (by omega) (by omega) M' Z' A' H' locs' ls' iv' hH' hS' hl'
      by_cases h62 : j < 62
      · obtain ⟨m1, m2⟩ := sw_in j h62
        refine lv_tableIn (tgt := PCL.getD j 0) S.1 S.2.1 sw_33 (by rw [hji]; omega) (by rw [hji]; omega) (off := (PCL.getD j 0 : Int) - 33) (by rw [hji, show ((j : Int) - 0).toNat = j by omega]; exact m2) (by omega) ?_
        exact w_all C hl hi _ m1 M Z A H locs iv hH hS go
      · refine lv_tableOut (tgt := 1915) S.1 S.2.1 sw_33 (by rw [hji]; omega) (by decide) ?_
        exact go M Z A H locs iv hH hS
theorem kr_mod {p : Program} {l : Launch} {e : Env} {R : Room} {s : State} {m : MethodId} {args : Array Value} {below : List Frame} {meth : Method} {c : Code} {H : Heap} {locs : List Loc} {cells slots : Nat} {Q : State → Prop} {cc : ByteArray} {pc nL idx1 idx2 a1 a2 : Nat} {ls : Array Slot} {rest : List Value} {D : va_G} {k : Nat → ClassId} {aK aV : Nat → Nat} {u : (Nat → Nat → Nat) × (Nat → Nat → Nat)} {own : String} {mi : MI}
    (S : CallFix p m c cc nL s args (WS mi) own) (hK : KC D k s) (hKK : ∀ b', KK (mkE D k aK aV s.heap.size u b') s) (h1 : lw_tbl[a1]? = some (.classLink own idx1 "FalseNotesModel")) (h2 : lw_tbl[a2]? = some (.methodLink own idx2 n_Mod.1))
    (hP : va_P D vCl (wFN k u) H) (hD : va_D (fun q : Nat => s.heap.size ≤ q) (wFN k u)) (hS : va_S (fun q : Nat => s.heap.size ≤ q) s.heap H locs) (hsz : ls.size = nL) (hR : 4 ≤ R.frames ∧ 256 ≤ R.locals) (hf : cells + 1 + 13 ≤ R.cells ∧ slots + 34 + 6065 ≤ R.slots) (hcs : (rest.map fun v => v.category).sum ≤ 7)
    (hd1 : decode cc pc = .ok (.new idx1, 3)) (hd2 : decode cc (pc + 3) = .ok (.dup, 1)) (hd3 : decode cc (pc + 3 + 1) = .ok (.invokespecial idx2, 3))
    (kk : ∀ (b' : Nat → Nat) (A' : Nat → Int) (H1 : Heap) (locs1 : List Loc), plA (fun _ => 0) A' 0 → HX (mkE D k aK aV s.heap.size u b') (zA M0 Z0 A') H1 → DX (mkE D k aK aV s.heap.size u b') → va_S (fun q : Nat => s.heap.size ≤ q) s.heap H1 locs1 → W p l e R s m args below meth c H1 locs1 (cells + 1 + 13) (slots + 34 + 6065) Q (F0 m (pc + 7) ls (.ref (b' 0) :: rest))) : W p l e R s m args below meth c H locs cells slots Q (F0 m pc ls rest) := by
  obtain ⟨hx, hb, hml, hown, hts⟩ := id S
  refine va_new (ci := 11) (fs := bMod) (C := "FalseNotesModel") (T := T_Mod) (N := 34) hx hb hts (fun x hx2 => List.mem_cons_of_mem _ (cl_words ("FalseNotesModel", T_Mod, 34) (List.mem_of_getElem? (i := 11) rfl) x hx2)) (clTy 11) (cl_ty 11 (by decide) ("FalseNotesModel", T_Mod, 34) rfl) hown (hts _ (in_WS h1 rfl)) (hts _ (in_WS (h := 1438) (by decide +kernel) rfl)) (hts _ (in_WS (h := 115) (by decide +kernel) rfl)) hK.1 hP hD hS (fun _ h => h) rfl f_Mod (by omega) (by omega) hd1 (fun q H1 hP1 hD1 hS1 => ?_)
  refine lv_dup hx hb hd2 rfl ?_
  have hG : GoodIn (WS mi) (WS n_Mod) := GoodIn_WS (extra := []) (fun _ h => by cases h) (fun _ h => by cases h) (i := 1441) (by decide +kernel)
  have hpre : PreS s H1 (va_Pc [.ref q] (PMod D k aK aV s.heap.size u q)) [.ref q] := by
    refine ⟨fun a U g mk h => ?_, fun U hU hW => ⟨rfl, by rw [hU]; exact hP1, hD1, hK.warm hW, (hKK _).move hS1 hU hW, by rw [hU]; exact hS1.1⟩⟩
    obtain ⟨q0, q1, q2, q3, q4, q5⟩ := h
    exact ⟨q0, q1, q2, q3.call g mk a, q4.call g mk a, q5⟩
  have hroom : ((Value.ref q :: rest).map fun v => v.category).sum ≤ 8 := by
    have : ((Value.ref q :: rest).map fun v => v.category).sum = 1 + (rest.map fun v => v.category).sum := rfl
    omega
  have run : va_Run p l e R s m args below meth c H1 locs (cells + 1) (slots + 34) 13 6065 (F0 m (pc + 3 + 1) ls (.ref q :: .ref q :: rest)) (.ref q :: rest) (QMod D k aK aV s.heap.size u q ([.ref q] : List Value).toArray) (fun x : Nat => s.heap.size ≤ x) :=
    va_runI (As := []) (rest := .ref q :: rest) S (k_Mod l D k aK aV s.heap.size u q) (cwI 0 hts hG rfl rfl rfl (hts _ (in_WS (h := 115) (by decide +kernel) rfl)) (hts _ (in_WS h2 rfl)) (hts _ (in_WS (h := 1440) (by decide +kernel) rfl)) rfl (by decide +kernel) ⟨hR.1, by show 8 + (1 + 11) + 192 ≤ R.locals; omega⟩) hpre rfl rfl hsz rfl (lv_room hroom) hd3 hf
  intro T hT0 X
  obtain ⟨v, st₀, t, T', Lc, h0, X', hL, e1, e2, ⟨⟨b', A', ho, hb0, hpl, hH, hDX⟩, hz, hk⟩, stp⟩ := run T hT0 X
  rw [h0] at hz hk
  cases ho
  have hS' : va_S (fun x : Nat => s.heap.size ≤ x) s.heap T'.heap (locs ++ Lc) := ⟨Nat.le_trans hS1.1 (by rw [e1]; exact hz), fun x q1 q2 => by rw [e1, hk x (Nat.lt_of_lt_of_le q1 hS1.1) q2]; exact hS1.2.1 x q1 q2, fun x hx => by
      rcases List.mem_append.mp hx with h | h
      · exact hS1.2.2 x h
      · exact hL x h⟩
  obtain ⟨t2, a1, b1⟩ := kk b' A' T'.heap (locs ++ Lc) hpl (by rw [e1]; exact hH) hDX hS' T' rfl X'
  rw [hb0] at a1
  exact ⟨t2, stp t2 a1, b1⟩
theorem ws_law {args : Array Value} {s : State} (hts : ∀ w ∈ lw_tbl, w.before args s = true) : ∀ w ∈ WS m_FN_status, w.before args s = true := by
  intro w hw
  rcases List.mem_cons.mp hw with rfl | hw
  · exact hts _ (List.mem_of_getElem? (i := 553) (by decide +kernel))
  · exact hts _ (List.mem_filter.mp hw).1
