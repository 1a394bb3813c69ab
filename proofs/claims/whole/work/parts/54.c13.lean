def forgY (Y : Ch) : Ch := upd2 (upd2 (upd2 Y 0 6 0) 0 7 0) 0 8 0
theorem iN_0I : (iN 0).toInt = 0 := iN_small (by omega) (by omega)
theorem iN_1I : (iN 1).toInt = 1 := iN_small (by omega) (by omega)
theorem iN_m1I : (iN (-1)).toInt = -1 := iN_small (by omega) (by omega)
theorem c_forget {l : Launch} {E : EnvT} {d : Nat} {K : AV → Mem → Prop} {M : Mem} {r : Nat} {Y : Ch} (hd : 1 ≤ d) (h : K (.null, 0) (setR M r (forgY Y))) : CT l E d m_Years_forget [(.ref r, 23)] (setR M r Y) K := by
  refine CT.of pn_Years (Nat.le_of_ble_eq_true rfl) ?_
  refine b_Years_forget_0 hd ⟨z01, ?_⟩
  simp only [upd3_setR, setR_same, setR_setR, iN_0I]
  exact h
def addEndY (Y : Ch) (b : Nat) : Ch := upd2 (upd2 (upd2 (upd2 Y 1 (Y 0 6).toNat 20) 6 (Y 0 6).toNat b) 6 b (Y 0 6)) 0 6 (Y 0 6 + 1)
theorem c_addEnd {l : Launch} {E : EnvT} {d : Nat} {K : AV → Mem → Prop} {M : Mem} {r : Nat} {Y : Ch} {b : Nat} (hd : 1 ≤ d) (q1 : 0 ≤ Y 0 6) (q2 : Y 0 6 < 60) (hb : b < 60) (h : K (.null, 0) (setR M r (addEndY Y b))) : CT l E d m_Years_addEnd [(.ref r, 23), (.int (iN b), 0)] (setR M r Y) K := by
  refine CT.of pn_Years (Nat.le_of_ble_eq_true rfl) ?_
  refine b_Years_addEnd_0 hd ?_
  obtain ⟨q, hq⟩ : ∃ q : Nat, Y 0 6 = q := ⟨(Y 0 6).toNat, (by omega)⟩
  unfold addEndY at h
  rw [hq, show ((q : Int)).toNat = q from rfl] at h
  simp only [upd3_setR, setR_same, setR_setR, upd2_c _ _ (show 0 ≠ 1 by decide), upd2_c _ _ (show 0 ≠ 6 by decide), hq, iN_clN (show (q : Int) < 2147483648 by omega), iN_clN (show (b : Int) < 2147483648 by omega), iN_add, iN_small (show -2147483648 ≤ (q : Int) by omega) (show (q : Int) < 2147483648 by omega), iN_small (show -2147483648 ≤ (q : Int) + 1 by omega) (show (q : Int) + 1 < 2147483648 by omega), iN_small (show -2147483648 ≤ (b : Int) by omega) (show (b : Int) < 2147483648 by omega), iN_small (show -2147483648 ≤ (20 : Int) by omega) (show (20 : Int) < 2147483648 by omega)]
  exact ⟨iN_in (by omega) (by omega) (by omega), iN_in (by omega) (by omega) (by omega), iN_in (by omega) (by omega) (by omega), h⟩
def addStepY (Y : Ch) (v : Int) : Ch := upd2 (upd2 (upd2 (upd2 (upd2 (upd2 Y 1 (Y 0 6).toNat v) 2 (Y 0 6).toNat (-1)) 3 (Y 0 6).toNat (-1)) 4 (Y 0 6).toNat 0) 0 7 (Y 0 7 + 1)) 0 6 (Y 0 6 + 1)
theorem c_addStep {l : Launch} {E : EnvT} {d : Nat} {K : AV → Mem → Prop} {M : Mem} {r : Nat} {Y : Ch} {v : Int} (hd : 1 ≤ d) (q1 : 0 ≤ Y 0 6) (q2 : Y 0 6 < 60) (p1 : 0 ≤ Y 0 7) (p2 : Y 0 7 ≤ 60) (v1 : -1 ≤ v) (v2 : v ≤ 60) (h : K (.int (iN (Y 0 6)), 0) (setR M r (addStepY Y v))) : CT l E d m_Years_addStep [(.ref r, 23), (.int (iN v), 0)] (setR M r Y) K := by
  refine CT.of pn_Years (Nat.le_of_ble_eq_true rfl) ?_
  refine b_Years_addStep_0 hd ?_
  obtain ⟨q, hq⟩ : ∃ q : Nat, Y 0 6 = q := ⟨(Y 0 6).toNat, (by omega)⟩
  unfold addStepY at h
  rw [hq, show ((q : Int)).toNat = q from rfl] at h
  simp only [upd3_setR, setR_same, setR_setR, upd2_c _ _ (show 0 ≠ 1 by decide), upd2_c _ _ (show 0 ≠ 2 by decide), upd2_c _ _ (show 0 ≠ 3 by decide), upd2_c _ _ (show 0 ≠ 4 by decide), upd2_k _ _ (show 6 ≠ 7 by decide), hq, iN_clN (show (q : Int) < 2147483648 by omega), iN_add, iN_small (show -2147483648 ≤ (q : Int) by omega) (show (q : Int) < 2147483648 by omega), iN_small (show -2147483648 ≤ (q : Int) + 1 by omega) (show (q : Int) + 1 < 2147483648 by omega), iN_small (show -2147483648 ≤ Y 0 7 + 1 by omega) (show Y 0 7 + 1 < 2147483648 by omega), iN_small (show -2147483648 ≤ v by omega) (show v < 2147483648 by omega), iN_0I, iN_m1I]
  refine ⟨iN_in (by omega) (by omega) (by omega), iN_in (by omega) (by omega) (by omega), iN_in (by omega) (by omega) (by omega), iN_in (by omega) (by omega) (by omega), b_Years_addStep_60 hd ?_⟩
  rw [setR_same, upd2_same, iN_sub, show (q : Int) + 1 - 1 = q by omega]
  exact h
theorem c_trayMake {l : Launch} {E : EnvT} {d : Nat} {K : AV → Mem → Prop} {M : Mem} {r : Nat} {T : Ch} {s n : Int} (hd : 2 ≤ d) (s1 : 0 ≤ s) (s2 : s ≤ 3) (n1 : 0 ≤ n) (n2 : n ≤ 60) (h : K (.null, 0) (setR M r (upd2 (upd2 (fillC T 1 0 60) 0 1 s) 0 2 n))) : CT l E d m_Tray_make [(.ref r, 39), (.int (iN s), 0), (.int (iN n), 0)] (setR M r T) K := by
  refine CT.of pn_Tray (Nat.le_of_ble_eq_true rfl) ?_
  refine b_Tray_make_0 (by omega) (c_fill_cells (by omega) ?_)
  simp only [upd3_setR, setR_same, setR_setR, iN_small (show -2147483648 ≤ s by omega) (show s < 2147483648 by omega), iN_small (show -2147483648 ≤ n by omega) (show n < 2147483648 by omega)]
  exact h
def missB (T : Ch) : Bool := T 0 2 == -1
theorem c_isMissing {l : Launch} {E : EnvT} {d : Nat} {K : AV → Mem → Prop} {M : Mem} {r : Nat} (hd : 1 ≤ d) (n1 : -1 ≤ M r 0 2) (n2 : M r 0 2 ≤ 60) (h : K (.int (iN (b2i (missB (M r)))), 0) M) : CT l E d m_Tray_isMissing [(.ref r, 39)] M K := by
  refine CT.of pn_Tray (Nat.le_of_ble_eq_true rfl) ?_
  refine b_Tray_isMissing_0 hd ?_
  rw [iN_eq (by omega) (by omega) (by omega) (by omega)]
  unfold missB at h
  refine ⟨fun c => ⟨z01, ?_⟩, fun c => ⟨o01, ?_⟩⟩
  · rw [beq_false_of_ne c] at h; exact h
  · rw [c] at h; exact h
def cutF (s : Int) (x : Int64) : Int64 := if s = 0 then (x.toInt32.toInt8.toInt32).toInt64 else if s = 1 then (x.toInt32.toInt16.toInt32).toInt64 else if s = 2 then x.toInt32.toInt64 else x
theorem c_cut {l : Launch} {E : EnvT} {d : Nat} {K : AV → Mem → Prop} {M : Mem} {r : Nat} {x : Int64} (hd : 1 ≤ d) (s1 : 0 ≤ M r 0 1) (s2 : M r 0 1 ≤ 3) (h : K (.long (cutF (M r 0 1) x), 0) M) : CT l E d m_Tray_cut [(.ref r, 39), (.long x, 0)] M K := by
  refine CT.of pn_Tray (Nat.le_of_ble_eq_true rfl) ?_
  refine b_Tray_cut_0 hd ?_
  unfold cutF at h
  simp (disch := omega) only [iN_eq]
  refine ⟨fun c => ?_, fun c => ⟨fun c2 => ?_, fun c2 => ⟨fun c3 => ?_, fun c3 => ?_⟩⟩⟩
  · rw [if_pos c] at h; exact h
  · rw [if_neg c, if_pos c2] at h; exact h
  · rw [if_neg c, if_neg c2, if_pos c3] at h; exact h
  · rw [if_neg c, if_neg c2, if_neg c3] at h; exact h
theorem c_put {l : Launch} {E : EnvT} {d : Nat} {K : AV → Mem → Prop} {M : Mem} {r : Nat} {T : Ch} {p : Nat} {x : Int64} (hd : 2 ≤ d) (s1 : 0 ≤ T 0 1) (s2 : T 0 1 ≤ 3) (hp : p < 60) (h : K (.null, 0) (setR M r (upd2 T 1 p (cutF (T 0 1) x).toInt))) : CT l E d m_Tray_put [(.ref r, 39), (.int (iN p), 0), (.long x, 0)] (setR M r T) K := by
  refine CT.of pn_Tray (Nat.le_of_ble_eq_true rfl) ?_
  refine b_Tray_put_0 (by omega) (c_cut (by omega) (by rw [setR_same]; exact s1) (by rw [setR_same]; exact s2) ⟨iN_in (by omega) (by omega) (by omega), ?_⟩)
  rw [toL_long, upd3_setR, setR_same, setR_setR, iN_clN (by omega)]
  exact h
def rowB (T : Ch) (a b : Int) : Bool := decide (a + b ≤ T 0 2)
theorem iN_64 {a : Int} (h1 : -2147483648 ≤ a) (h2 : a < 2147483648) : (iN a).toInt64.toInt = a := by
  rw [Int32.toInt_toInt64, iN_small h1 h2]
theorem c_hasRow {l : Launch} {E : EnvT} {d : Nat} {K : AV → Mem → Prop} {M : Mem} {r : Nat} {a b : Int} (hd : 1 ≤ d) (n1 : -1 ≤ M r 0 2) (n2 : M r 0 2 ≤ 60) (a1 : -2147483648 ≤ a) (a2 : a < 2147483648) (b1 : -2147483648 ≤ b) (b2 : b < 2147483648) (h : K (.int (iN (b2i (rowB (M r) a b))), 0) M) : CT l E d m_Tray_hasRow [(.ref r, 39), (.int (iN a), 0), (.int (iN b), 0)] M K := by
  refine CT.of pn_Tray (Nat.le_of_ble_eq_true rfl) ?_
  refine b_Tray_hasRow_0 hd ?_
  have e : 0 < lg_cmp ((iN a).toInt64 + (iN b).toInt64) (iN (M r 0 2)).toInt64 ↔ M r 0 2 < a + b := by
    rw [lg_cmp_gt, Int64.lt_iff_toInt_lt, Int64.toInt_add, iN_64 a1 a2, iN_64 b1 b2, iN_64 (by omega) (by omega)]
    have h8 : (2 : Nat) ^ 64 = 18446744073709551616 := by decide
    rw [h8, Int.bmod_eq_of_le (by omega) (by omega)]
  rw [e]
  unfold rowB at h
  refine ⟨fun c => ⟨z01, ?_⟩, fun c => ⟨o01, ?_⟩⟩
  · rw [decide_eq_false (by omega)] at h; exact h
  · rw [decide_eq_true (by omega)] at h; exact h
def YB (Y : Ch) : Prop := (0 ≤ Y 0 6 ∧ Y 0 6 ≤ 60) ∧ (0 ≤ Y 0 7 ∧ Y 0 7 ≤ 60) ∧ (Y 0 8 = 0 ∨ Y 0 8 = 1)
theorem mkC_at {k : Nat} (h : k < 3) : ([(6, 11), (8, 11), (10, 11)].getD k (0, 0)).1 = 6 + 2 * k := by
  have : k = 0 ∨ k = 1 ∨ k = 2 := (by omega)
  rcases this with rfl | rfl | rfl <;> rfl
theorem mkY_at {k : Nat} (h : k < 3) : ([(7, 23), (9, 23), (11, 23)].getD k (0, 0)).1 = 7 + 2 * k := by
  have : k = 0 ∨ k = 1 ∨ k = 2 := (by omega)
  rcases this with rfl | rfl | rfl <;> rfl
theorem chRs_m {k : Nat} (h : k < 3) : 6 + 2 * k ∈ chRs := by
  have : k = 0 ∨ k = 1 ∨ k = 2 := (by omega)
  rcases this with rfl | rfl | rfl <;> decide
theorem yrRs_m {k : Nat} (h : k < 3) : 7 + 2 * k ∈ yrRs := by
  have : k = 0 ∨ k = 1 ∨ k = 2 := (by omega)
  rcases this with rfl | rfl | rfl <;> decide
theorem c_keep {l : Launch} {E : EnvT} {d : Nat} {K : AV → Mem → Prop} {M : Mem} {r2 r3 : Nat} {k : Nat} (hd : 3 ≤ d) (hk : M 5 0 2 = k) (k3 : k < 3) (h2 : r2 = 16 ∨ r2 = 17) (h3 : r3 = 18 ∨ r3 = 19) (hV : VB (M r2)) (hY : YB (M r3)) (h : K (.null, 0) (setR (setR (setR M (6 + 2 * k) (M r2)) (7 + 2 * k) (M r3)) 5 (upd2 (M 5) 0 2 (k + 1)))) : CT l E d m_Marks_keep [(.ref 5, 8), (.ref r2, 11), (.ref r3, 23)] M K := by
  refine CT.of pn_Marks (Nat.le_of_ble_eq_true rfl) ?_
  refine b_Marks_keep_0 (by omega) ?_
  rw [hk, iN_clN (by omega), mkC_at k3]
  refine ⟨iN_in (by omega) (by omega) (by omega), c_chTake (by omega) (chRs_m k3) (by omega) hV ?_⟩
  rw [setR_ne _ _ (show 5 ≠ 6 + 2 * k by omega), hk, iN_clN (by omega), mkY_at k3]
  refine ⟨iN_in (by omega) (by omega) (by omega), ?_⟩
  have e : setR M (6 + 2 * k) (M r2) r3 = M r3 := setR_ne _ _ (by omega)
  refine c_yrTake (by omega) (yrRs_m k3) (by omega) (by rw [e]; exact hY.1) (by rw [e]; exact hY.2.1) (by rw [e]; exact hY.2.2) ?_
  rw [e, upd3_setR, setR_ne _ _ (show 5 ≠ 7 + 2 * k by omega), setR_ne _ _ (show 5 ≠ 6 + 2 * k by omega), hk, iN_add, iN_small (by omega) (by omega)]
  exact h
theorem c_giveBack {l : Launch} {E : EnvT} {d : Nat} {K : AV → Mem → Prop} {M : Mem} {r2 r3 : Nat} {k : Nat} (hd : 3 ≤ d) (hk : M 5 0 2 = k + 1) (k3 : k < 3) (h2 : r2 = 16 ∨ r2 = 17) (h3 : r3 = 18 ∨ r3 = 19) (hV : VB (M (6 + 2 * k))) (hY : YB (M (7 + 2 * k))) (h : K (.null, 0) (setR (setR (setR M 5 (upd2 (M 5) 0 2 k)) r2 (M (6 + 2 * k))) r3 (M (7 + 2 * k)))) : CT l E d m_Marks_giveBack [(.ref 5, 8), (.ref r2, 11), (.ref r3, 23)] M K := by
  refine CT.of pn_Marks (Nat.le_of_ble_eq_true rfl) ?_
  refine b_Marks_giveBack_0 (by omega) ?_
  rw [hk, iN_sub, show (k : Int) + 1 - 1 = k by omega, iN_small (by omega) (by omega), upd3_setR, setR_same, upd2_same, iN_clN (by omega), mkC_at k3]
  have e1 : setR M 5 (upd2 (M 5) 0 2 k) (6 + 2 * k) = M (6 + 2 * k) := setR_ne _ _ (by omega)
  refine ⟨iN_in (by omega) (by omega) (by omega), c_chTake (by omega) (by rcases h2 with rfl | rfl <;> decide) (by omega) (by rw [e1]; exact hV) ?_⟩
  rw [e1, setR_ne _ _ (show 5 ≠ r2 by omega), setR_same, upd2_same, iN_clN (by omega), mkY_at k3]
  have e2 : setR (setR M 5 (upd2 (M 5) 0 2 k)) r2 (M (6 + 2 * k)) (7 + 2 * k) = M (7 + 2 * k) := by rw [setR_ne _ _ (by omega), setR_ne _ _ (by omega)]
  refine ⟨iN_in (by omega) (by omega) (by omega), c_yrTake (by omega) (by rcases h3 with rfl | rfl <;> decide) (by omega) (by rw [e2]; exact hY.1) (by rw [e2]; exact hY.2.1) (by rw [e2]; exact hY.2.2) ?_⟩
  rw [e2]
  exact h
