def fillC (C : Ch) (c : Nat) (v : Int) (j : Nat) : Ch := fun c' i => if c' = c ∧ i < j then v else C c' i
theorem fillC_0 (C : Ch) (c : Nat) (v : Int) : fillC C c v 0 = C := by
  funext c' i
  unfold fillC
  rw [if_neg (by omega)]
theorem fillC_step (C : Ch) (c : Nat) (v : Int) (j : Nat) : upd2 (fillC C c v j) c j v = fillC C c v (j + 1) := by
  funext c' i
  unfold upd2 fillC
  by_cases hc : c' = c
  · subst hc
    by_cases hi : i = j
    · subst hi; simp
    · have : i < j ↔ i < j + 1 := (by omega)
      simp [hi, this]
  · simp [hc]
theorem fillC_c (C : Ch) {c c' : Nat} (v : Int) (j : Nat) (h : c' ≠ c) : fillC C c v j c' = C c' := by
  funext i
  unfold fillC
  rw [if_neg (fun q => h q.1)]
theorem c_fill_holders {l : Launch} {E : EnvT} {d : Nat} {K : AV → Mem → Prop} {M : Mem} {r : Nat} {C : Ch} {v : Int} (hd : 1 ≤ d) (v1 : -2147483648 ≤ v) (v2 : v < 2147483648) (h : K (.null, 0) (setR M r (fillC C 6 v 48))) : CT l E d m_Arrays_fill1 [(.ref r, 17), (.int (iN v), 0)] (setR M r C) K := by
  refine CT.of pn_Arrays (Nat.le_of_ble_eq_true rfl) ?_
  refine b_Arrays_fill1_holders_0 hd ?_
  have key : ∀ k : Nat, k ≤ 48 → G l E d m_Arrays_fill1 5 [(0, (.ref r, 17)), (1, (.int (iN v), 0)), (2, (.int (iN k), 0)), (3, (.int (iN 48), 0))] [] (setR M r (fillC C 6 v k)) K := by
    refine dn 48 ?_ (fun k hk ih => ?_)
    · exact b_Arrays_fill1_holders_5 hd ⟨fun _ => h, fun c => absurd ((iN_le (by omega) (by omega) (by omega) (by omega)).mpr (by omega)) c⟩
    · refine b_Arrays_fill1_holders_5 hd ⟨fun c => absurd ((iN_le (by omega) (by omega) (by omega) (by omega)).mp c) (by omega), fun _ => ⟨iN_in (by omega) (by omega) (by omega), ?_⟩⟩
      rw [iN_clN (by omega), iN_small v1 v2, upd3_setR, setR_same, setR_setR, fillC_step, iN_add]
      exact ih
  have := key 0 (by omega)
  rw [fillC_0] at this
  exact this
theorem c_fill_debts {l : Launch} {E : EnvT} {d : Nat} {K : AV → Mem → Prop} {M : Mem} {r : Nat} {C : Ch} {v : Int} (hd : 1 ≤ d) (v1 : -2147483648 ≤ v) (v2 : v < 2147483648) (h : K (.null, 0) (setR M r (fillC C 7 v 48))) : CT l E d m_Arrays_fill1 [(.ref r, 18), (.int (iN v), 0)] (setR M r C) K := by
  refine CT.of pn_Arrays (Nat.le_of_ble_eq_true rfl) ?_
  refine b_Arrays_fill1_debts_0 hd ?_
  have key : ∀ k : Nat, k ≤ 48 → G l E d m_Arrays_fill1 5 [(0, (.ref r, 18)), (1, (.int (iN v), 0)), (2, (.int (iN k), 0)), (3, (.int (iN 48), 0))] [] (setR M r (fillC C 7 v k)) K := by
    refine dn 48 ?_ (fun k hk ih => ?_)
    · exact b_Arrays_fill1_debts_5 hd ⟨fun _ => h, fun c => absurd ((iN_le (by omega) (by omega) (by omega) (by omega)).mpr (by omega)) c⟩
    · refine b_Arrays_fill1_debts_5 hd ⟨fun c => absurd ((iN_le (by omega) (by omega) (by omega) (by omega)).mp c) (by omega), fun _ => ⟨iN_in (by omega) (by omega) (by omega), ?_⟩⟩
      rw [iN_clN (by omega), iN_small v1 v2, upd3_setR, setR_same, setR_setR, fillC_step, iN_add]
      exact ih
  have := key 0 (by omega)
  rw [fillC_0] at this
  exact this
theorem c_fill_bests {l : Launch} {E : EnvT} {d : Nat} {K : AV → Mem → Prop} {M : Mem} {r : Nat} {C : Ch} {v : Int} (hd : 1 ≤ d) (v1 : -2147483648 ≤ v) (v2 : v < 2147483648) (h : K (.null, 0) (setR M r (fillC C 6 v 256))) : CT l E d m_Arrays_fill1 [(.ref r, 36), (.int (iN v), 0)] (setR M r C) K := by
  refine CT.of pn_Arrays (Nat.le_of_ble_eq_true rfl) ?_
  refine b_Arrays_fill1_bests_0 hd ?_
  have key : ∀ k : Nat, k ≤ 256 → G l E d m_Arrays_fill1 5 [(0, (.ref r, 36)), (1, (.int (iN v), 0)), (2, (.int (iN k), 0)), (3, (.int (iN 256), 0))] [] (setR M r (fillC C 6 v k)) K := by
    refine dn 256 ?_ (fun k hk ih => ?_)
    · exact b_Arrays_fill1_bests_5 hd ⟨fun _ => h, fun c => absurd ((iN_le (by omega) (by omega) (by omega) (by omega)).mpr (by omega)) c⟩
    · refine b_Arrays_fill1_bests_5 hd ⟨fun c => absurd ((iN_le (by omega) (by omega) (by omega) (by omega)).mp c) (by omega), fun _ => ⟨iN_in (by omega) (by omega) (by omega), ?_⟩⟩
      rw [iN_clN (by omega), iN_small v1 v2, upd3_setR, setR_same, setR_setR, fillC_step, iN_add]
      exact ih
  have := key 0 (by omega)
  rw [fillC_0] at this
  exact this
theorem c_fill_cells {l : Launch} {E : EnvT} {d : Nat} {K : AV → Mem → Prop} {M : Mem} {r : Nat} {C : Ch} {x : Int64} (hd : 1 ≤ d) (h : K (.null, 0) (setR M r (fillC C 1 x.toInt 60))) : CT l E d m_Arrays_fill0 [(.ref r, 40), (.long x, 0)] (setR M r C) K := by
  refine CT.of pn_Arrays (Nat.le_of_ble_eq_true rfl) ?_
  refine b_Arrays_fill0_cells_0 hd ?_
  have key : ∀ k : Nat, k ≤ 60 → G l E d m_Arrays_fill0 6 [(0, (.ref r, 40)), (1, (.long x, 0)), (3, (.int (iN k), 0)), (4, (.int (iN 60), 0))] [] (setR M r (fillC C 1 x.toInt k)) K := by
    refine dn 60 ?_ (fun k hk ih => ?_)
    · exact b_Arrays_fill0_cells_6 hd ⟨fun _ => h, fun c => absurd ((iN_le (by omega) (by omega) (by omega) (by omega)).mpr (by omega)) c⟩
    · refine b_Arrays_fill0_cells_6 hd ⟨fun c => absurd ((iN_le (by omega) (by omega) (by omega) (by omega)).mp c) (by omega), fun _ => ⟨iN_in (by omega) (by omega) (by omega), ?_⟩⟩
      rw [iN_clN (by omega), upd3_setR, setR_same, setR_setR, fillC_step, iN_add]
      exact ih
  have := key 0 (by omega)
  rw [fillC_0] at this
  exact this
def emptyC (C : Ch) : Ch := upd2 (upd2 (upd2 (upd2 (upd2 (upd2 (upd2 (upd2 (upd2 (fillC (fillC C 6 (-1) 48) 7 0 48) 8 3 0) 0 8 0) 0 9 0) 0 10 0) 0 11 0) 0 12 0) 0 13 0) 0 14 0) 0 15 0
theorem c_makeEmpty {l : Launch} {E : EnvT} {d : Nat} {K : AV → Mem → Prop} {M : Mem} {r : Nat} {C : Ch} (hd : 2 ≤ d) (h : K (.null, 0) (setR M r (emptyC C))) : CT l E d m_Choir_makeEmpty [(.ref r, 11)] (setR M r C) K := by
  refine CT.of pn_Choir (Nat.le_of_ble_eq_true rfl) ?_
  refine b_Choir_makeEmpty_0 (by omega) (c_fill_holders (by omega) (by omega) (by omega) (c_fill_debts (by omega) (by omega) (by omega) (b_Choir_makeEmpty_59 (by omega) ?_)))
  have e0 : (iN 0).toInt = 0 := iN_small (by omega) (by omega)
  simp only [upd3_setR, setR_same, setR_setR, e0]
  exact h
theorem VB_empty {C : Ch} (hV : VB C) : VB (emptyC C) := by
  have e : ∀ c, c ≠ 0 → c ≠ 8 → emptyC C c = fillC (fillC C 6 (-1) 48) 7 0 48 c := by
    intro c h0 h8
    unfold emptyC
    rw [upd2_c _ _ h0, upd2_c _ _ h0, upd2_c _ _ h0, upd2_c _ _ h0, upd2_c _ _ h0, upd2_c _ _ h0, upd2_c _ _ h0, upd2_c _ _ h0, upd2_c _ _ h8]
  obtain ⟨a1, a2, a3, a4, a5, a6, a7, a8, a9, a10, a11, a12, a13, a14, a15⟩ := hV
  have e8 : emptyC C 8 3 = 0 := by
    unfold emptyC
    rw [upd2_c _ _ (show 8 ≠ 0 by decide), upd2_c _ _ (show 8 ≠ 0 by decide), upd2_c _ _ (show 8 ≠ 0 by decide), upd2_c _ _ (show 8 ≠ 0 by decide), upd2_c _ _ (show 8 ≠ 0 by decide), upd2_c _ _ (show 8 ≠ 0 by decide), upd2_c _ _ (show 8 ≠ 0 by decide), upd2_c _ _ (show 8 ≠ 0 by decide), upd2_same]
  have e0 : ∀ j, 8 ≤ j → j ≤ 15 → emptyC C 0 j = 0 := by
    intro j h1 h2
    have : j = 8 ∨ j = 9 ∨ j = 10 ∨ j = 11 ∨ j = 12 ∨ j = 13 ∨ j = 14 ∨ j = 15 := (by omega)
    rcases this with rfl | rfl | rfl | rfl | rfl | rfl | rfl | rfl <;> simp [emptyC, upd2]
  refine ⟨by rw [e0 8 (by omega) (by omega)]; omega, fun j q1 q2 => by rw [e0 j (by omega) (by omega)]; omega, by rw [e0 13 (by omega) (by omega)]; omega, by rw [e0 14 (by omega) (by omega)]; omega, by rw [e0 15 (by omega) (by omega)]; omega, ?_, ?_, ?_, ?_, ?_, ?_, by rw [e8]; omega, ?_, ?_, ?_⟩
  · rw [e 2 (by decide) (by decide), fillC_c _ _ _ (by decide), fillC_c _ _ _ (by decide)]; exact a6
  · rw [e 3 (by decide) (by decide), fillC_c _ _ _ (by decide), fillC_c _ _ _ (by decide)]; exact a7
  · rw [e 4 (by decide) (by decide), fillC_c _ _ _ (by decide), fillC_c _ _ _ (by decide)]; exact a8
  · rw [e 5 (by decide) (by decide), fillC_c _ _ _ (by decide), fillC_c _ _ _ (by decide)]; exact a9
  · intro i hi
    rw [e 6 (by decide) (by decide), fillC_c _ _ _ (by decide)]
    unfold fillC
    rw [if_pos ⟨rfl, hi⟩]; omega
  · intro i hi
    rw [e 7 (by decide) (by decide)]
    unfold fillC
    rw [if_pos ⟨rfl, hi⟩]; omega
  · rw [e 9 (by decide) (by decide), fillC_c _ _ _ (by decide), fillC_c _ _ _ (by decide)]; exact a13
  · rw [e 10 (by decide) (by decide), fillC_c _ _ _ (by decide), fillC_c _ _ _ (by decide)]; exact a14
  · rw [e 11 (by decide) (by decide), fillC_c _ _ _ (by decide), fillC_c _ _ _ (by decide)]; exact a15
def addNoteC (C : Ch) (s : Nat) (v : Int) : Ch := upd2 (upd2 C 5 (6 * s + (C 4 s).toNat) v) 4 s (C 4 s + 1)
theorem VB_addNote {C : Ch} {s : Nat} {v : Int} (hV : VB C) (hs : s < 8) (hl : C 4 s < 6) (v1 : 0 ≤ v) (v2 : v ≤ 24) : VB (addNoteC C s v) := by
  have := hV.le s hs
  exact VB_4 (VB_5 hV v1 v2) (by omega) (by omega)
theorem c_addNote {l : Launch} {E : EnvT} {d : Nat} {K : AV → Mem → Prop} {M : Mem} {r : Nat} {C : Ch} {s : Nat} {v : Int} (hd : 2 ≤ d) (hV : VB C) (hs : s < 8) (hl : C 4 s < 6) (v1 : 0 ≤ v) (v2 : v ≤ 24) (h : K (.null, 0) (setR M r (addNoteC C s v))) : CT l E d m_Choir_addNote [(.ref r, 11), (.int (iN s), 0), (.int (iN v), 0)] (setR M r C) K := by
  refine CT.of pn_Choir (Nat.le_of_ble_eq_true rfl) ?_
  refine b_Choir_addNote_0 (by omega) ?_
  have hle := hV.le s hs
  obtain ⟨q, hq⟩ : ∃ q : Nat, C 4 s = q := ⟨(C 4 s).toNat, (by omega)⟩
  unfold addNoteC at h
  rw [hq, show ((q : Int)).toNat = q from rfl] at h
  rw [setR_same, iN_clN (by omega), hq]
  refine ⟨iN_in (by omega) (by omega) (by omega), c_slot (by omega) ?_⟩
  rw [show (s : Int) * 6 + q = ((6 * s + q : Nat) : Int) by push_cast; omega, toI_int, iN_clN (by omega)]
  refine ⟨iN_in (by omega) (by omega) (by omega), iN_in (by omega) (by omega) (by omega), iN_in (by omega) (by omega) (by omega), ?_⟩
  simp only [upd3_setR, setR_same, setR_setR, upd2_c _ _ (show 4 ≠ 5 by decide), hq, iN_add, iN_small (show -2147483648 ≤ (q : Int) + 1 by omega) (show (q : Int) + 1 < 2147483648 by omega), iN_small (show -2147483648 ≤ v by omega) (show v < 2147483648 by omega)]
  exact h
def addS0 (C : Ch) (s : Nat) (nm : Int) (p : Int) : Ch := upd2 (upd2 (upd2 (upd2 C 1 s nm) 2 s p) 3 s (-1)) 4 s 0
def addSingerC (C : Ch) (nm : Int) (p : Int) : Ch := upd2 (addNoteC (addNoteC (addNoteC (addS0 C (C 0 8).toNat nm p) (C 0 8).toNat 12) (C 0 8).toNat 14) (C 0 8).toNat 16) 0 8 (C 0 8 + 1)
theorem VB_1 {C : Ch} {k : Nat} {v : Int} (h : VB C) : VB (upd2 C 1 k v) := by
  obtain ⟨a1, a2, a3, a4, a5, a6, a7, a8, a9, a10, a11, a12, a13, a14, a15⟩ := h
  have e : ∀ c, c ≠ 1 → upd2 C 1 k v c = C c := fun c hc => upd2_c C v hc
  exact ⟨by rw [e 0 (by omega)]; exact a1, by rw [e 0 (by omega)]; exact a2, by rw [e 0 (by omega)]; exact a3, by rw [e 0 (by omega)]; exact a4, by rw [e 0 (by omega)]; exact a5, by rw [e 2 (by omega)]; exact a6, by rw [e 3 (by omega)]; exact a7, by rw [e 4 (by omega)]; exact a8, by rw [e 5 (by omega)]; exact a9, by rw [e 6 (by omega)]; exact a10, by rw [e 7 (by omega)]; exact a11, by rw [e 8 (by omega)]; exact a12, by rw [e 9 (by omega)]; exact a13, by rw [e 10 (by omega)]; exact a14, by rw [e 11 (by omega)]; exact a15⟩
theorem addNoteC_4 (C : Ch) (s : Nat) (v : Int) : addNoteC C s v 4 s = C 4 s + 1 := by unfold addNoteC; rw [upd2_same]
theorem addNoteC_c {C : Ch} {s : Nat} {v : Int} {c : Nat} (h4 : c ≠ 4) (h5 : c ≠ 5) : addNoteC C s v c = C c := by unfold addNoteC; rw [upd2_c _ _ h4, upd2_c _ _ h5]
theorem VB_addS0 {C : Ch} {s : Nat} {nm p : Int} (hV : VB C) (p1 : 0 ≤ p) (p2 : p ≤ 9999) : VB (addS0 C s nm p) := VB_4 (VB_3 (VB_2 (VB_1 hV) p1 p2) (by omega) (by omega)) (by omega) (by omega)
theorem addS0_4 (C : Ch) (s : Nat) (nm p : Int) : addS0 C s nm p 4 s = 0 := by unfold addS0; rw [upd2_same]
theorem VB_add3 {C : Ch} {s : Nat} {nm p : Int} (hV : VB C) (hs : s < 8) (p1 : 0 ≤ p) (p2 : p ≤ 9999) : VB (addNoteC (addNoteC (addNoteC (addS0 C s nm p) s 12) s 14) s 16) :=
  VB_addNote (VB_addNote (VB_addNote (VB_addS0 hV p1 p2) hs (by rw [addS0_4]; omega) (by omega) (by omega)) hs (by rw [addNoteC_4, addS0_4]; omega) (by omega) (by omega)) hs (by rw [addNoteC_4, addNoteC_4, addS0_4]; omega) (by omega) (by omega)
theorem VB_addSinger {C : Ch} {nm p : Int} (hV : VB C) (hn : C 0 8 < 8) (p1 : 0 ≤ p) (p2 : p ≤ 9999) : VB (addSingerC C nm p) := by
  have := hV.n
  exact VB_f8 (VB_add3 hV (by omega) p1 p2) (by omega) (by omega)
theorem c_addSinger {l : Launch} {E : EnvT} {d : Nat} {K : AV → Mem → Prop} {M : Mem} {r : Nat} {C : Ch} {x : Int64} {p : Int} (hd : 3 ≤ d) (hV : VB C) (hn8 : C 0 8 < 8) (p1 : 0 ≤ p) (p2 : p ≤ 9999) (h : K (.int (iN (C 0 8)), 0) (setR M r (addSingerC C x.toInt p))) : CT l E d m_Choir_addSinger [(.ref r, 11), (.long x, 0), (.int (iN p), 0)] (setR M r C) K := by
  refine CT.of pn_Choir (Nat.le_of_ble_eq_true rfl) ?_
  refine b_Choir_addSinger_0 (by omega) ?_
  have hn0 := hV.n
  obtain ⟨s, hs⟩ : ∃ s : Nat, C 0 8 = s := ⟨(C 0 8).toNat, (by omega)⟩
  unfold addSingerC at h
  rw [hs, show ((s : Int)).toNat = s from rfl] at h
  have hs8 : s < 8 := (by omega)
  have e0 : (iN 0).toInt = 0 := iN_small (by omega) (by omega)
  have e1 : (iN (-1)).toInt = -1 := iN_small (by omega) (by omega)
  simp only [upd3_setR, setR_same, setR_setR, hs, iN_clN (show (s : Int) < 2147483648 by omega), e0, e1, iN_small (show -2147483648 ≤ p by omega) (show p < 2147483648 by omega)]
  have v0 : VB (addS0 C s x.toInt p) := VB_addS0 hV p1 p2
  have v1 := VB_addNote (v := 12) v0 hs8 (by rw [addS0_4]; omega) (by omega) (by omega)
  have v2 := VB_addNote (v := 14) v1 hs8 (by rw [addNoteC_4, addS0_4]; omega) (by omega) (by omega)
  refine ⟨iN_in (by omega) (by omega) (by omega), iN_in (by omega) (by omega) (by omega), iN_in (by omega) (by omega) (by omega), iN_in (by omega) (by omega) (by omega), ?_⟩
  refine c_addNote (C := addS0 C s x.toInt p) (by omega) v0 hs8 (by rw [addS0_4]; omega) (by omega) (by omega) (c_addNote (by omega) v1 hs8 (by rw [addNoteC_4, addS0_4]; omega) (by omega) (by omega) (b_Choir_addSinger_54 (by omega) (c_addNote (by omega) v2 hs8 (by rw [addNoteC_4, addNoteC_4, addS0_4]; omega) (by omega) (by omega) ?_)))
  have e08 : addNoteC (addNoteC (addNoteC (addS0 C s x.toInt p) s 12) s 14) s 16 0 8 = s := by
    rw [addNoteC_c (by decide) (by decide), addNoteC_c (by decide) (by decide), addNoteC_c (by decide) (by decide)]
    unfold addS0
    rw [upd2_c _ _ (show 0 ≠ 4 by decide), upd2_c _ _ (show 0 ≠ 3 by decide), upd2_c _ _ (show 0 ≠ 2 by decide), upd2_c _ _ (show 0 ≠ 1 by decide)]
    exact hs
  rw [upd3_setR, setR_same, setR_setR, e08, iN_add, iN_small (by omega) (by omega)]
  exact h
def findC (C : Ch) (x : Int64) : Int := fnd (fun s => decide (lI (C 1 s) = x)) (C 0 8).toNat
theorem cmp0 (x y : Int64) : lg_cmp x y = 0 ↔ x = y := by
  unfold lg_cmp
  split
  · rename_i h
    constructor
    · intro e; exact absurd e (by decide +kernel)
    · intro e; subst e; exact absurd h (Int64.lt_irrefl)
  · split
    · rename_i h; simp [h]
    · rename_i h
      constructor
      · intro e; exact absurd e (by decide +kernel)
      · intro e; exact absurd e h
theorem c_find {l : Launch} {E : EnvT} {d : Nat} {K : AV → Mem → Prop} {M : Mem} {r : Nat} {x : Int64} (hd : 1 ≤ d) (hV : VB (M r)) (h : K (.int (iN (findC (M r) x)), 0) M) : CT l E d m_Choir_find [(.ref r, 11), (.long x, 0)] M K := by
  refine CT.of pn_Choir (Nat.le_of_ble_eq_true rfl) ?_
  refine b_Choir_find_0 hd ?_
  have hn0 := hV.n
  obtain ⟨n, hn⟩ : ∃ n : Nat, M r 0 8 = n := ⟨(M r 0 8).toNat, (by omega)⟩
  have key : ∀ m i : Nat, i + m = n → findC (M r) x = fndF (fun s => decide (lI (M r 1 s) = x)) i m → G l E d m_Choir_find 2 [(0, (.ref r, 11)), (1, (.long x, 0)), (3, (.int (iN i), 0))] [] M K := by
    intro m
    induction m with
    | zero =>
      intro i hi he
      refine b_Choir_find_2 hd ?_
      rw [hn]
      rw [he] at h
      exact ⟨fun _ => h, fun c => absurd ((iN_le (by omega) (by omega) (by omega) (by omega)).mpr (by omega)) c⟩
    | succ m ih =>
      intro i hi he
      refine b_Choir_find_2 hd ?_
      rw [hn, iN_clN (by omega), cmp0, iN_add]
      refine ⟨fun c => absurd ((iN_le (by omega) (by omega) (by omega) (by omega)).mp c) (by omega), fun _ => ⟨iN_in (by omega) (by omega) (by omega), fun c => ?_, fun c => ?_⟩⟩
      · refine ih (i + 1) (by omega) ?_
        rw [he]
        simp [fndF, c]
      · rw [he] at h
        simpa [fndF, c] using h
  exact key n 0 (by omega) (by unfold findC fnd; rw [hn]; rfl)
