def stM (M : Mem) (w : Int) : Mem := setR M 0 (upd2 (M 0) 0 13 w)
theorem stM_eq (M : Mem) (w : Int) : upd3 M 0 0 13 w = stM M w := upd3_setR M 0 0 13 w
theorem c_answer {l : Launch} {E : EnvT} {d : Nat} {K : AV → Mem → Prop} {M : Mem} {x : Int32} (hd : 1 ≤ d) (h : K (.int x, 0) (stM M 0)) : CT l E d m_FN_answer [(.ref 0, 0), (.int x, 0)] M K := by
  refine CT.of pn_FN (Nat.le_of_ble_eq_true rfl) ?_
  refine b_FN_answer_0 hd ?_
  rw [iN_0I, stM_eq]
  exact h
theorem c_refuse {l : Launch} {E : EnvT} {d : Nat} {K : AV → Mem → Prop} {M : Mem} {w : Int} (hd : 1 ≤ d) (w1 : 0 ≤ w) (w2 : w ≤ 9) (h : K (.int (iN (-1)), 0) (stM M w)) : CT l E d m_FN_refuse [(.ref 0, 0), (.int (iN w), 0)] M K := by
  refine CT.of pn_FN (Nat.le_of_ble_eq_true rfl) ?_
  refine b_FN_refuse_0 hd ?_
  rw [iN_small (by omega) (by omega), stM_eq]
  exact h
theorem c_agree {l : Launch} {E : EnvT} {d : Nat} {K : AV → Mem → Prop} {M : Mem} (hd : 1 ≤ d) (h : K (.int (iN 1), 0) (stM M 0)) : CT l E d m_FN_agree [(.ref 0, 0)] M K := by
  refine CT.of pn_FN (Nat.le_of_ble_eq_true rfl) ?_
  refine b_FN_agree_0 hd ⟨o01, ?_⟩
  rw [iN_0I, stM_eq]
  exact h
theorem c_deny {l : Launch} {E : EnvT} {d : Nat} {K : AV → Mem → Prop} {M : Mem} {w : Int} (hd : 1 ≤ d) (w1 : 0 ≤ w) (w2 : w ≤ 9) (h : K (.int (iN 0), 0) (stM M w)) : CT l E d m_FN_deny [(.ref 0, 0), (.int (iN w), 0)] M K := by
  refine CT.of pn_FN (Nat.le_of_ble_eq_true rfl) ?_
  refine b_FN_deny_0 hd ⟨z01, ?_⟩
  rw [iN_small (by omega) (by omega), stM_eq]
  exact h
def ans (v : Int) : Int × Int := (v, 0)
def rfs (w : Int) : Int × Int := (-1, w)
def ansOr (v w : Int) : Int × Int := if v = -1 then rfs w else ans v
theorem c_answerOr {l : Launch} {E : EnvT} {d : Nat} {K : AV → Mem → Prop} {M : Mem} {x w : Int} (hd : 2 ≤ d) (x1 : -2147483648 ≤ x) (x2 : x < 2147483648) (w1 : 0 ≤ w) (w2 : w ≤ 9) (h : K (.int (iN (ansOr x w).1), 0) (stM M (ansOr x w).2)) : CT l E d m_FN_answerOr [(.ref 0, 0), (.int (iN x), 0), (.int (iN w), 0)] M K := by
  refine CT.of pn_FN (Nat.le_of_ble_eq_true rfl) ?_
  refine b_FN_answerOr_0 (by omega) ?_
  rw [iN_eq x1 x2 (by omega) (by omega)]
  unfold ansOr at h
  refine ⟨fun c => c_answer (by omega) ?_, fun c => c_refuse (by omega) w1 w2 ?_⟩
  · rw [if_neg c] at h; exact h
  · rw [if_pos c] at h; exact h
theorem c_status {l : Launch} {E : EnvT} {d : Nat} {K : AV → Mem → Prop} {M : Mem} (hd : 1 ≤ d) (h : K (.int (iN (M 0 0 13)), 0) M) : CT l E d m_FN_status [(.ref 0, 0)] M K := by
  refine CT.of pn_FN (Nat.le_of_ble_eq_true rfl) ?_
  exact b_FN_status_0 hd h
theorem c_top {l : Launch} {E : EnvT} {d : Nat} {K : AV → Mem → Prop} {M : Mem} (hd : 1 ≤ d) (h : K (.long (lI (M 0 0 14)), 0) M) : CT l E d m_FN_top [(.ref 0, 0)] M K := by
  refine CT.of pn_FN (Nat.le_of_ble_eq_true rfl) ?_
  exact b_FN_top_0 hd h
theorem c_bottom {l : Launch} {E : EnvT} {d : Nat} {K : AV → Mem → Prop} {M : Mem} (hd : 1 ≤ d) (h : K (.long (lI (M 0 0 15)), 0) M) : CT l E d m_FN_bottom [(.ref 0, 0)] M K := by
  refine CT.of pn_FN (Nat.le_of_ble_eq_true rfl) ?_
  exact b_FN_bottom_0 hd h
def FC (M : Mem) (rc : Nat) : Prop := M 0 0 9 = rc ∧ (rc = 16 ∨ rc = 17) ∧ VB (M rc)
theorem FC.eq {M : Mem} {rc : Nat} (h : FC M rc) : (M 0 0 9).toNat = rc := by rw [h.1]; rfl
theorem FC.cl {M : Mem} {rc : Nat} (h : FC M rc) : (rc, 11) ∈ CL := by rcases h.2.1 with rfl | rfl <;> decide +kernel
theorem c_fault {l : Launch} {E : EnvT} {d : Nat} {K : AV → Mem → Prop} {M : Mem} {z : Int} (hd : 1 ≤ d) (z1 : -2147483648 ≤ z) (z2 : z < 2147483648) (h : K (.int (iN (if z = 0 then M 0 0 17 else if z = 1 then M 0 0 18 else -1)), 0) M) : CT l E d m_FN_fault [(.ref 0, 0), (.int (iN z), 0)] M K := by
  refine CT.of pn_FN (Nat.le_of_ble_eq_true rfl) ?_
  refine b_FN_fault_0 hd ?_
  rw [iN_eq0 z1 z2, iN_eq z1 z2 (by omega) (by omega)]
  refine ⟨fun c => ⟨fun c2 => ?_, fun c2 => ?_⟩, fun c => ?_⟩
  · rw [if_neg c, if_neg c2] at h; exact h
  · rw [if_neg c, if_pos c2] at h; exact h
  · rw [if_pos c] at h; exact h
def toldQ (C : Ch) (z : Int) : Int × Int :=
  if z = 0 then ans (C 0 8) else if z = 1 then ans (C 0 13) else if z = 2 then ans (C 0 14)
  else if z = 3 then ans (cntN (fun i => decide (0 < C 7 i)) 48) else if z = 4 then ans (C 8 3)
  else if z = 5 then ans (allOwC C 0) else if z = 6 then ans (sumN (C 2) (C 0 8).toNat)
  else if z = 7 then ans (C 0 15) else if z = 8 then ans (C 0 11) else if z = 9 then ans (C 0 12) else rfs 1
theorem c_told {l : Launch} {E : EnvT} {d : Nat} {K : AV → Mem → Prop} {M : Mem} {rc : Nat} {z : Int} (hd : 6 ≤ d) (hF : FC M rc) (z1 : -2147483648 ≤ z) (z2 : z < 2147483648) (h : K (.int (iN (toldQ (M rc) z).1), 0) (stM M (toldQ (M rc) z).2)) : CT l E d m_FN_told [(.ref 0, 0), (.int (iN z), 0)] M K := by
  refine CT.of pn_FN (Nat.le_of_ble_eq_true rfl) ?_
  refine b_FN_told_0 (by omega) ?_
  have ek : ∀ j : Int, -100 ≤ j → j ≤ 100 → (iN z = iN j ↔ z = j) := fun j j1 j2 => iN_eq z1 z2 (by omega) (by omega)
  have cl := hF.cl
  have hV := hF.2.2
  rw [hF.eq, ek 0 (by omega) (by omega), ek 1 (by omega) (by omega), ek 2 (by omega) (by omega), ek 3 (by omega) (by omega), ek 4 (by omega) (by omega), ek 5 (by omega) (by omega), ek 6 (by omega) (by omega), ek 7 (by omega) (by omega), ek 8 (by omega) (by omega), ek 9 (by omega) (by omega)]
  unfold toldQ at h
  refine ⟨fun e => ⟨cl, c_answer (by omega) ?_⟩, fun n0 => ⟨fun e => ⟨cl, c_answer (by omega) ?_⟩, fun n1 => ⟨fun e => ⟨cl, c_answer (by omega) ?_⟩, fun n2 => ⟨fun e => ⟨cl, c_debtsAtNotes (by omega) hV (c_answer (by omega) ?_)⟩, fun n3 => ⟨fun e => ⟨cl, c_answer (by omega) ?_⟩, fun n4 => ⟨fun e => ⟨cl, c_allOwed (by omega) hV (c_answer (by omega) ?_)⟩, fun n5 => ⟨fun e => ⟨cl, c_allCoins (by omega) hV (c_answer (by omega) ?_)⟩, fun n6 => ⟨fun e => ⟨cl, c_answer (by omega) ?_⟩, fun n7 => ⟨fun e => ⟨cl, c_answer (by omega) ?_⟩, fun n8 => ⟨fun e => ⟨cl, c_answer (by omega) ?_⟩, fun n9 => c_refuse (by omega) (by omega) (by omega) ?_⟩⟩⟩⟩⟩⟩⟩⟩⟩⟩
  · rw [if_pos e] at h; exact h
  · rw [if_neg n0, if_pos e] at h; exact h
  · rw [if_neg n0, if_neg n1, if_pos e] at h; exact h
  · rw [if_neg n0, if_neg n1, if_neg n2, if_pos e] at h; exact h
  · rw [if_neg n0, if_neg n1, if_neg n2, if_neg n3, if_pos e] at h; exact h
  · rw [if_neg n0, if_neg n1, if_neg n2, if_neg n3, if_neg n4, if_pos e] at h; exact h
  · rw [if_neg n0, if_neg n1, if_neg n2, if_neg n3, if_neg n4, if_neg n5, if_pos e] at h; exact h
  · rw [if_neg n0, if_neg n1, if_neg n2, if_neg n3, if_neg n4, if_neg n5, if_neg n6, if_pos e] at h; exact h
  · rw [if_neg n0, if_neg n1, if_neg n2, if_neg n3, if_neg n4, if_neg n5, if_neg n6, if_neg n7, if_pos e] at h; exact h
  · rw [if_neg n0, if_neg n1, if_neg n2, if_neg n3, if_neg n4, if_neg n5, if_neg n6, if_neg n7, if_neg n8, if_pos e] at h; exact h
  · rw [if_neg n0, if_neg n1, if_neg n2, if_neg n3, if_neg n4, if_neg n5, if_neg n6, if_neg n7, if_neg n8, if_neg n9] at h; exact h
def singerQ (C : Ch) (a z : Int) : Int × Int :=
  if knowsB C a then
    (if z = 0 then ans (C 2 a.toNat) else if z = 1 then ans (C 4 a.toNat) else if z = 2 then ans (b2i (inS (C 0 9) a.toNat)) else if z = 3 then ans (b2i (inS (C 0 10) a.toNat))
     else if z = 4 then ansOr (C 3 a.toNat) 6 else if z = 5 then ans (owesC C a) else if z = 6 then ans (isOwC C a.toNat) else rfs 1)
  else rfs 1
theorem knowsB_spec {C : Ch} {a : Int} (h : knowsB C a = true) : 0 ≤ a ∧ a < C 0 8 := of_decide_eq_true h
theorem c_singer {l : Launch} {E : EnvT} {d : Nat} {K : AV → Mem → Prop} {M : Mem} {rc : Nat} {a z : Int} (hd : 4 ≤ d) (hF : FC M rc) (a1 : -2147483648 ≤ a) (a2 : a < 2147483648) (z1 : -2147483648 ≤ z) (z2 : z < 2147483648) (h : K (.int (iN (singerQ (M rc) a z).1), 0) (stM M (singerQ (M rc) a z).2)) : CT l E d m_FN_singer [(.ref 0, 0), (.int (iN a), 0), (.int (iN z), 0)] M K := by
  refine CT.of pn_FN (Nat.le_of_ble_eq_true rfl) ?_
  have ek : ∀ j : Int, -100 ≤ j → j ≤ 100 → (iN z = iN j ↔ z = j) := fun j j1 j2 => iN_eq z1 z2 (by omega) (by omega)
  have cl := hF.cl
  have hV := hF.2.2
  have hn := hV.n
  unfold singerQ at h
  refine b_FN_singer_0 (by omega) ?_
  rw [hF.eq]
  refine ⟨cl, c_knows (by omega) hV a1 a2 ?_⟩
  rw [toI_int, b2i_z, hF.eq, ek 0 (by omega) (by omega), ek 1 (by omega) (by omega), ek 2 (by omega) (by omega), ek 3 (by omega) (by omega), ek 4 (by omega) (by omega), ek 5 (by omega) (by omega), ek 6 (by omega) (by omega)]
  refine ⟨fun c => ?_, fun c => c_refuse (by omega) (by omega) (by omega) ?_⟩
  · rw [Bool.not_eq_false] at c
    have t := knowsB_spec c
    obtain ⟨s, rfl⟩ : ∃ s : Nat, a = s := ⟨a.toNat, (by omega)⟩
    have s8 : s < 8 := (by omega)
    have m9 := hV.ms 9 (by omega) (by omega)
    have m10 := hV.ms 10 (by omega) (by omega)
    have he := hV.he s s8
    rw [if_pos c, show ((s : Int)).toNat = s from rfl] at h
    rw [iN_clN (by omega)]
    refine ⟨fun e => ⟨cl, iN_in (by omega) (by omega) (by omega), c_answer (by omega) ?_⟩, fun n0 => ⟨fun e => ⟨cl, iN_in (by omega) (by omega) (by omega), c_answer (by omega) ?_⟩, fun n1 => ⟨fun e => ⟨cl, c_oneIfIn (by omega) m9.1 m9.2 s8 (c_answer (by omega) ?_)⟩, fun n2 => ⟨fun e => ⟨cl, c_oneIfIn (by omega) m10.1 m10.2 s8 (c_answer (by omega) ?_)⟩, fun n3 => ⟨fun e => ⟨cl, iN_in (by omega) (by omega) (by omega), c_answerOr (by omega) (by omega) (by omega) (by omega) (by omega) ?_⟩, fun n4 => ⟨fun e => ⟨cl, c_owesInAll (by omega) hV (by omega) (by omega) (c_answer (by omega) ?_)⟩, fun n5 => ⟨fun e => ⟨cl, c_isOwedInAll (by omega) hV s8 (c_answer (by omega) ?_)⟩, fun n6 => c_refuse (by omega) (by omega) (by omega) ?_⟩⟩⟩⟩⟩⟩⟩
    · rw [if_pos e] at h; exact h
    · rw [if_neg n0, if_pos e] at h; exact h
    · rw [if_neg n0, if_neg n1, if_pos e] at h; exact h
    · rw [if_neg n0, if_neg n1, if_neg n2, if_pos e] at h; exact h
    · rw [if_neg n0, if_neg n1, if_neg n2, if_neg n3, if_pos e] at h; exact h
    · rw [if_neg n0, if_neg n1, if_neg n2, if_neg n3, if_neg n4, if_pos e] at h; exact h
    · rw [if_neg n0, if_neg n1, if_neg n2, if_neg n3, if_neg n4, if_neg n5, if_pos e] at h; exact h
    · rw [if_neg n0, if_neg n1, if_neg n2, if_neg n3, if_neg n4, if_neg n5, if_neg n6] at h; exact h
  · rw [if_neg (by simp [c])] at h; exact h
def noteB (C : Ch) (a b : Int) : Bool := knowsB C a && decide (0 ≤ b ∧ b < C 4 a.toNat)
def lineQ (C : Ch) (a b : Int) : Int × Int := if noteB C a b then ans (C 5 (6 * a.toNat + b.toNat)) else rfs 1
theorem c_line {l : Launch} {E : EnvT} {d : Nat} {K : AV → Mem → Prop} {M : Mem} {rc : Nat} {a b : Int} (hd : 3 ≤ d) (hF : FC M rc) (a1 : -2147483648 ≤ a) (a2 : a < 2147483648) (z1 : -2147483648 ≤ b) (z2 : b < 2147483648) (h : K (.int (iN (lineQ (M rc) a b).1), 0) (stM M (lineQ (M rc) a b).2)) : CT l E d m_FN_line [(.ref 0, 0), (.int (iN a), 0), (.int (iN b), 0)] M K := by
  refine CT.of pn_FN (Nat.le_of_ble_eq_true rfl) ?_
  have cl := hF.cl
  have hV := hF.2.2
  have hn := hV.n
  unfold lineQ noteB at h
  refine b_FN_line_0 (by omega) ?_
  rw [hF.eq]
  refine ⟨cl, c_knows (by omega) hV a1 a2 ?_⟩
  rw [toI_int, b2i_z, hF.eq]
  refine ⟨fun c => c_refuse (by omega) (by omega) (by omega) ?_, fun c => ?_⟩
  · rw [c, Bool.false_and, if_neg (by simp)] at h; exact h
  · rw [Bool.not_eq_false] at c
    have t := knowsB_spec c
    obtain ⟨s, rfl⟩ : ∃ s : Nat, a = s := ⟨a.toNat, (by omega)⟩
    have s8 : s < 8 := (by omega)
    have le := hV.le s s8
    rw [c, Bool.true_and, show ((s : Int)).toNat = s from rfl] at h
    refine ⟨cl, c_hasNote (by omega) hV s8 z1 z2 ?_⟩
    rw [toI_int, b2i_z, hF.eq]
    refine ⟨fun c2 => ⟨cl, c_slot (by omega) ?_⟩, fun c2 => c_refuse (by omega) (by omega) (by omega) ?_⟩
    · rw [Bool.not_eq_false] at c2
      have t2 := of_decide_eq_true c2
      obtain ⟨k, rfl⟩ : ∃ k : Nat, b = k := ⟨b.toNat, (by omega)⟩
      rw [c2, if_pos rfl] at h
      rw [show (s : Int) * 6 + k = ((6 * s + k : Nat) : Int) by push_cast; omega, toI_int, iN_clN (by omega)]
      exact ⟨iN_in (by omega) (by omega) (by omega), c_answer (by omega) h⟩
    · rw [c2, if_neg (by simp)] at h; exact h
def owedQ (C : Ch) (a b : Int) : Int × Int := if knowsB C a && (knowsB C b && decide (a ≠ b)) then ans (owedC C a b.toNat) else rfs 1
theorem c_owed {l : Launch} {E : EnvT} {d : Nat} {K : AV → Mem → Prop} {M : Mem} {rc : Nat} {a b : Int} (hd : 4 ≤ d) (hF : FC M rc) (a1 : -2147483648 ≤ a) (a2 : a < 2147483648) (z1 : -2147483648 ≤ b) (z2 : b < 2147483648) (h : K (.int (iN (owedQ (M rc) a b).1), 0) (stM M (owedQ (M rc) a b).2)) : CT l E d m_FN_owed [(.ref 0, 0), (.int (iN a), 0), (.int (iN b), 0)] M K := by
  refine CT.of pn_FN (Nat.le_of_ble_eq_true rfl) ?_
  have cl := hF.cl
  have hV := hF.2.2
  have hn := hV.n
  unfold owedQ at h
  refine b_FN_owed_0 (by omega) ?_
  rw [hF.eq]
  refine ⟨cl, c_knows (by omega) hV a1 a2 ?_⟩
  rw [toI_int, b2i_z, hF.eq]
  refine ⟨fun c => c_refuse (by omega) (by omega) (by omega) ?_, fun c => ⟨cl, c_knows (by omega) hV z1 z2 ?_⟩⟩
  · rw [c, Bool.false_and, if_neg (by simp)] at h; exact h
  · rw [Bool.not_eq_false] at c
    have t := knowsB_spec c
    rw [c, Bool.true_and] at h
    rw [toI_int, b2i_z, hF.eq]
    refine ⟨fun c2 => c_refuse (by omega) (by omega) (by omega) ?_, fun c2 => ?_⟩
    · rw [c2, Bool.false_and, if_neg (by simp)] at h; exact h
    · rw [Bool.not_eq_false] at c2
      have t2 := knowsB_spec c2
      rw [c2, Bool.true_and] at h
      rw [iN_eq a1 a2 z1 z2]
      refine ⟨fun c3 => ⟨cl, ?_⟩, fun c3 => c_refuse (by omega) (by omega) (by omega) ?_⟩
      · rw [decide_eq_true c3, if_pos rfl] at h
        obtain ⟨k, rfl⟩ : ∃ k : Nat, b = k := ⟨b.toNat, (by omega)⟩
        exact c_owedBetween (by omega) hV (b := k) (by omega) (by omega) (by omega) (c_answer (by omega) h)
      · rw [decide_eq_false (fun q => q c3), if_neg (by simp)] at h; exact h
def waitQ (C : Ch) (k z : Int) : Int × Int :=
  if 0 ≤ z ∧ z ≤ 2 then (if 0 ≤ k ∧ k < C 8 3 then (if z = 0 then ans (C 9 k.toNat) else if z = 1 then ans (C 10 k.toNat) else ans (C 11 k.toNat)) else rfs 6) else rfs 1
theorem c_waitingQ {l : Launch} {E : EnvT} {d : Nat} {K : AV → Mem → Prop} {M : Mem} {rc : Nat} {k z : Int} (hd : 2 ≤ d) (hF : FC M rc) (a1 : -2147483648 ≤ k) (a2 : k < 2147483648) (z1 : -2147483648 ≤ z) (z2 : z < 2147483648) (h : K (.int (iN (waitQ (M rc) k z).1), 0) (stM M (waitQ (M rc) k z).2)) : CT l E d m_FN_waiting [(.ref 0, 0), (.int (iN k), 0), (.int (iN z), 0)] M K := by
  refine CT.of pn_FN (Nat.le_of_ble_eq_true rfl) ?_
  have cl := hF.cl
  have hV := hF.2.2
  have hw := hV.w
  unfold waitQ at h
  refine b_FN_waiting_0 (by omega) ?_
  rw [hF.eq, iN_lt0 z1 z2, iN_le z1 z2 (by omega) (by omega), iN_lt0 a1 a2, iN_lt a1 a2 (by omega) (by omega), iN_eq0 z1 z2, iN_eq z1 z2 (by omega) (by omega)]
  refine ⟨fun c => c_refuse (by omega) (by omega) (by omega) ?_, fun c => ⟨fun c2 => ⟨cl, fun c3 => c_refuse (by omega) (by omega) (by omega) ?_, fun c3 => ⟨fun c4 => ?_, fun c4 => c_refuse (by omega) (by omega) (by omega) ?_⟩⟩, fun c2 => c_refuse (by omega) (by omega) (by omega) ?_⟩⟩
  · rw [if_neg (by omega)] at h; exact h
  · rw [if_pos (by omega), if_neg (by omega)] at h; exact h
  · rw [if_pos (by omega), if_pos (by omega)] at h
    obtain ⟨j, rfl⟩ : ∃ j : Nat, k = j := ⟨k.toNat, (by omega)⟩
    rw [show ((j : Int)).toNat = j from rfl] at h
    rw [iN_clN (by omega)]
    refine ⟨fun c5 => ⟨fun c6 => ⟨iN_in (by omega) (by omega) (by omega), c_answer (by omega) ?_⟩, fun c6 => ⟨iN_in (by omega) (by omega) (by omega), c_answer (by omega) ?_⟩⟩, fun c5 => ⟨iN_in (by omega) (by omega) (by omega), c_answer (by omega) ?_⟩⟩
    · rw [if_neg c5, if_neg c6] at h; exact h
    · rw [if_neg c5, if_pos c6] at h; exact h
    · rw [if_pos c5] at h; exact h
  · rw [if_pos (by omega), if_neg (by omega)] at h; exact h
  · rw [if_neg (by omega)] at h; exact h
