def inB (z m : Int) : Bool := decide (0 ≤ z ∧ z ≤ m)
theorem c_isDebt {l : Launch} {E : EnvT} {d : Nat} {K : AV → Mem → Prop} {M : Mem} {z : Int} (hd : 1 ≤ d) (z1 : -2147483648 ≤ z) (z2 : z < 2147483648) (h : K (.int (iN (b2i (inB z 999))), 0) M) : CT l E d m_FN_isDebtOrNone [(.int (iN z), 0)] M K := by
  refine CT.of pn_FN (Nat.le_of_ble_eq_true rfl) ?_
  refine b_FN_isDebtOrNone_0 hd ?_
  rw [iN_lt0 z1 z2, iN_lt (by omega) (by omega) z1 z2]
  unfold inB at h
  refine ⟨fun c => ⟨z01, ?_⟩, fun c => ⟨fun c2 => ⟨z01, ?_⟩, fun c2 => ⟨o01, ?_⟩⟩⟩
  · rw [decide_eq_false (by omega)] at h; exact h
  · rw [decide_eq_false (by omega)] at h; exact h
  · rw [decide_eq_true (by omega)] at h; exact h
theorem c_isSpan {l : Launch} {E : EnvT} {d : Nat} {K : AV → Mem → Prop} {M : Mem} {z : Int} (hd : 1 ≤ d) (z1 : -2147483648 ≤ z) (z2 : z < 2147483648) (h : K (.int (iN (b2i (inB z 999))), 0) M) : CT l E d m_FN_isSpan [(.int (iN z), 0)] M K := by
  refine CT.of pn_FN (Nat.le_of_ble_eq_true rfl) ?_
  refine b_FN_isSpan_0 hd ?_
  rw [iN_lt0 z1 z2, iN_lt (by omega) (by omega) z1 z2]
  unfold inB at h
  refine ⟨fun c => ⟨z01, ?_⟩, fun c => ⟨fun c2 => ⟨z01, ?_⟩, fun c2 => ⟨o01, ?_⟩⟩⟩
  · rw [decide_eq_false (by omega)] at h; exact h
  · rw [decide_eq_false (by omega)] at h; exact h
  · rw [decide_eq_true (by omega)] at h; exact h
theorem c_isTray {l : Launch} {E : EnvT} {d : Nat} {K : AV → Mem → Prop} {M : Mem} {z : Int} (hd : 1 ≤ d) (z1 : -2147483648 ≤ z) (z2 : z < 2147483648) (h : K (.int (iN (b2i (inB z 3))), 0) M) : CT l E d m_FN_isTray [(.int (iN z), 0)] M K := by
  refine CT.of pn_FN (Nat.le_of_ble_eq_true rfl) ?_
  refine b_FN_isTray_0 hd ?_
  rw [iN_lt0 z1 z2, iN_le (by omega) (by omega) z1 z2]
  unfold inB at h
  refine ⟨fun c => ⟨z01, ?_⟩, fun c => ⟨fun c2 => ⟨z01, ?_⟩, fun c2 => ⟨o01, ?_⟩⟩⟩
  · rw [decide_eq_false (by omega)] at h; exact h
  · rw [decide_eq_false (by omega)] at h; exact h
  · rw [decide_eq_true (by omega)] at h; exact h
def livQ (C : Ch) (a : Int) (f : Nat → Int) : Int × Int := if livesB C a then ans (f a.toNat) else rfs 1
theorem c_balance {l : Launch} {E : EnvT} {d : Nat} {K : AV → Mem → Prop} {M : Mem} {rc : Nat} {a : Int} (hd : 4 ≤ d) (hF : FC M rc) (a1 : -2147483648 ≤ a) (a2 : a < 2147483648) (h : K (.int (iN (livQ (M rc) a (balC (M rc))).1), 0) (stM M (livQ (M rc) a (balC (M rc))).2)) : CT l E d m_FN_balance [(.ref 0, 0), (.int (iN a), 0)] M K := by
  refine CT.of pn_FN (Nat.le_of_ble_eq_true rfl) ?_
  have cl := hF.cl
  have hV := hF.2.2
  have hn := hV.n
  unfold livQ at h
  refine b_FN_balance_0 (by omega) ?_
  rw [hF.eq]
  refine ⟨cl, c_lives (by omega) hV a1 a2 ?_⟩
  rw [toI_int, b2i_z, hF.eq]
  refine ⟨fun c => ⟨cl, ?_⟩, fun c => c_refuse (by omega) (by omega) (by omega) ?_⟩
  · rw [Bool.not_eq_false] at c
    have t := livesB_spec c
    rw [c, if_pos rfl] at h
    obtain ⟨s, rfl⟩ : ∃ s : Nat, a = s := ⟨a.toNat, (by omega)⟩
    exact c_balanceOf (by omega) hV (by omega) (c_answer (by omega) h)
  · rw [c, if_neg (by simp)] at h; exact h
theorem c_freeQ {l : Launch} {E : EnvT} {d : Nat} {K : AV → Mem → Prop} {M : Mem} {rc : Nat} {a : Int} (hd : 3 ≤ d) (hF : FC M rc) (a1 : -2147483648 ≤ a) (a2 : a < 2147483648) (h : K (.int (iN (livQ (M rc) a (freeC (M rc))).1), 0) (stM M (livQ (M rc) a (freeC (M rc))).2)) : CT l E d m_FN_free [(.ref 0, 0), (.int (iN a), 0)] M K := by
  refine CT.of pn_FN (Nat.le_of_ble_eq_true rfl) ?_
  have cl := hF.cl
  have hV := hF.2.2
  have hn := hV.n
  unfold livQ at h
  refine b_FN_free_0 (by omega) ?_
  rw [hF.eq]
  refine ⟨cl, c_lives (by omega) hV a1 a2 ?_⟩
  rw [toI_int, b2i_z, hF.eq]
  refine ⟨fun c => ⟨cl, ?_⟩, fun c => c_refuse (by omega) (by omega) (by omega) ?_⟩
  · rw [Bool.not_eq_false] at c
    have t := livesB_spec c
    rw [c, if_pos rfl] at h
    obtain ⟨s, rfl⟩ : ∃ s : Nat, a = s := ⟨a.toNat, (by omega)⟩
    exact c_freeNotes (by omega) hV (by omega) (c_answer (by omega) h)
  · rw [c, if_neg (by simp)] at h; exact h
theorem c_queue {l : Launch} {E : EnvT} {d : Nat} {K : AV → Mem → Prop} {M : Mem} {rc : Nat} {a : Int} (hd : 2 ≤ d) (hF : FC M rc) (a1 : -2147483648 ≤ a) (a2 : a < 2147483648) (h : K (.int (iN (livQ (M rc) a (fun s => cntN (fun k => M rc 10 k == (s : Int)) (M rc 8 3).toNat)).1), 0) (stM M (livQ (M rc) a (fun s => cntN (fun k => M rc 10 k == (s : Int)) (M rc 8 3).toNat)).2)) : CT l E d m_FN_queue [(.ref 0, 0), (.int (iN a), 0)] M K := by
  refine CT.of pn_FN (Nat.le_of_ble_eq_true rfl) ?_
  have cl := hF.cl
  have hV := hF.2.2
  have hn := hV.n
  unfold livQ at h
  refine b_FN_queue_0 (by omega) ?_
  rw [hF.eq]
  refine ⟨cl, c_lives (by omega) hV a1 a2 ?_⟩
  rw [toI_int, b2i_z, hF.eq]
  refine ⟨fun c => ⟨cl, ?_⟩, fun c => c_refuse (by omega) (by omega) (by omega) ?_⟩
  · rw [Bool.not_eq_false] at c
    have t := livesB_spec c
    rw [c, if_pos rfl] at h
    obtain ⟨s, rfl⟩ : ∃ s : Nat, a = s := ⟨a.toNat, (by omega)⟩
    exact c_countFor (by omega) hV (by omega) (by omega) (c_answer (by omega) h)
  · rw [c, if_neg (by simp)] at h; exact h
def growQ (C : Ch) (x w : Int) : Int × Int := if inB x 999 && inB w 999 then ans (growsC (C 0 13) w.toNat x) else rfs 1
theorem c_growsQ {l : Launch} {E : EnvT} {d : Nat} {K : AV → Mem → Prop} {M : Mem} {rc : Nat} {x w : Int} (hd : 4 ≤ d) (hF : FC M rc) (x1 : -2147483648 ≤ x) (x2 : x < 2147483648) (w1 : -2147483648 ≤ w) (w2 : w < 2147483648) (h : K (.int (iN (growQ (M rc) x w).1), 0) (stM M (growQ (M rc) x w).2)) : CT l E d m_FN_grows [(.ref 0, 0), (.int (iN x), 0), (.int (iN w), 0)] M K := by
  refine CT.of pn_FN (Nat.le_of_ble_eq_true rfl) ?_
  have cl := hF.cl
  have hV := hF.2.2
  unfold growQ at h
  refine b_FN_grows_0 (by omega) (c_isDebt (by omega) x1 x2 ?_)
  rw [toI_int, b2i_z]
  refine ⟨fun c => c_refuse (by omega) (by omega) (by omega) ?_, fun c => c_isSpan (by omega) w1 w2 ?_⟩
  · rw [c, Bool.false_and, if_neg (by simp)] at h; exact h
  · rw [Bool.not_eq_false] at c
    rw [c, Bool.true_and] at h
    have t : 0 ≤ x ∧ x ≤ 999 := of_decide_eq_true c
    rw [toI_int, b2i_z, hF.eq]
    refine ⟨fun c2 => ⟨cl, ?_⟩, fun c2 => c_refuse (by omega) (by omega) (by omega) ?_⟩
    · rw [Bool.not_eq_false] at c2
      have t2 : 0 ≤ w ∧ w ≤ 999 := of_decide_eq_true c2
      rw [c2, if_pos rfl] at h
      obtain ⟨n, rfl⟩ : ∃ n : Nat, w = n := ⟨w.toNat, (by omega)⟩
      exact c_grownIn (by omega) hV t.1 t.2 (by omega) (c_answer (by omega) h)
    · rw [c2, if_neg (by simp)] at h; exact h
def owInQ (C : Ch) (w : Int) : Int × Int := if inB w 999 then ans (allOwC C w.toNat) else rfs 1
theorem c_owedInQ {l : Launch} {E : EnvT} {d : Nat} {K : AV → Mem → Prop} {M : Mem} {rc : Nat} {w : Int} (hd : 5 ≤ d) (hF : FC M rc) (w1 : -2147483648 ≤ w) (w2 : w < 2147483648) (h : K (.int (iN (owInQ (M rc) w).1), 0) (stM M (owInQ (M rc) w).2)) : CT l E d m_FN_owedIn [(.ref 0, 0), (.int (iN w), 0)] M K := by
  refine CT.of pn_FN (Nat.le_of_ble_eq_true rfl) ?_
  have cl := hF.cl
  have hV := hF.2.2
  unfold owInQ at h
  refine b_FN_owedIn_0 (by omega) (c_isSpan (by omega) w1 w2 ?_)
  rw [toI_int, b2i_z, hF.eq]
  refine ⟨fun c => ⟨cl, ?_⟩, fun c => c_refuse (by omega) (by omega) (by omega) ?_⟩
  · rw [Bool.not_eq_false] at c
    have t2 : 0 ≤ w ∧ w ≤ 999 := of_decide_eq_true c
    rw [c, if_pos rfl] at h
    obtain ⟨n, rfl⟩ : ∃ n : Nat, w = n := ⟨w.toNat, (by omega)⟩
    exact c_allOwedIn (by omega) hV (by omega) (c_answer (by omega) h)
  · rw [c, if_neg (by simp)] at h; exact h
