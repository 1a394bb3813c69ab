def dieQ (C : Ch) (a : Int) : (Int × Int) × Ch := if livesB C a then (ans (manyC (buryC C a).2), (buryC C a).2) else (rfs 1, C)
theorem c_dieQ {l : Launch} {E : EnvT} {d : Nat} {K : AV → Mem → Prop} {M : Mem} {rc : Nat} {a : Int} (hd : 5 ≤ d) (hF : FC M rc) (a1 : -2147483648 ≤ a) (a2 : a < 2147483648) (h : K (.int (iN (dieQ (M rc) a).1.1), 0) (stM (setR M rc (dieQ (M rc) a).2) (dieQ (M rc) a).1.2)) : CT l E d m_FN_die [(.ref 0, 0), (.int (iN a), 0)] M K := by
  refine CT.of pn_FN (Nat.le_of_ble_eq_true rfl) ?_
  have cl := hF.cl
  have hV := hF.2.2
  unfold dieQ at h
  refine b_FN_die_0 (by omega) ?_
  rw [hF.eq]
  refine ⟨cl, c_lives (by omega) hV a1 a2 ?_⟩
  rw [toI_int, b2i_z, hF.eq]
  refine ⟨fun c => ⟨cl, ?_⟩, fun c => c_refuse (by omega) (by omega) (by omega) ?_⟩
  · rw [Bool.not_eq_false] at c
    rw [c, if_pos rfl] at h
    have hV2 := VB_bury (z := a) hV
    have hF2 := hF.set hV2
    have hm : M = setR M rc (M rc) := (setR_self M rc).symm
    have goal : CT l E (d - 1) m_Choir_bury [(.ref rc, 11), (.int (iN a), 0)] (setR M rc (M rc)) (fun v2 M2 => (((M2 0 0 9).toNat, 11) ∈ CL ∧ CT l E (d - 1) m_Choir_livingCount [(.ref (M2 0 0 9).toNat, 11)] M2 (fun v3 M3 => CT l E (d - 1) m_FN_answer [(.ref 0, 0), (.int (toI v3), 0)] M3 (fun v4 M4 => K (.int (toI v4), 0) M4)))) := by
      refine c_bury (by omega) hV a1 a2 ?_
      rw [hF2.eq]
      refine ⟨cl, c_livingCount (by omega) hF2.2.2 (c_answer (by omega) ?_)⟩
      rw [setR_same]
      exact h
    rw [← hm] at goal
    exact goal
  · rw [c, if_neg (by simp), setR_self] at h; exact h
def coldQ (C : Ch) (a : Int) : (Int × Int) × Ch := if livesB C a then (ansOr (coldC C a).1 7, (coldC C a).2) else (rfs 1, C)
theorem c_coldQ {l : Launch} {E : EnvT} {d : Nat} {K : AV → Mem → Prop} {M : Mem} {rc : Nat} {a : Int} (hd : 4 ≤ d) (hF : FC M rc) (a1 : -2147483648 ≤ a) (a2 : a < 2147483648) (h : K (.int (iN (coldQ (M rc) a).1.1), 0) (stM (setR M rc (coldQ (M rc) a).2) (coldQ (M rc) a).1.2)) : CT l E d m_FN_cold [(.ref 0, 0), (.int (iN a), 0)] M K := by
  refine CT.of pn_FN (Nat.le_of_ble_eq_true rfl) ?_
  have cl := hF.cl
  have hV := hF.2.2
  unfold coldQ at h
  refine b_FN_cold_0 (by omega) ?_
  rw [hF.eq]
  refine ⟨cl, c_lives (by omega) hV a1 a2 ?_⟩
  rw [toI_int, b2i_z, hF.eq]
  refine ⟨fun c => ⟨cl, ?_⟩, fun c => c_refuse (by omega) (by omega) (by omega) ?_⟩
  · rw [Bool.not_eq_false] at c
    rw [c, if_pos rfl] at h
    have cr := coldC_rng (M rc) a
    have hm : M = setR M rc (M rc) := (setR_self M rc).symm
    have goal : CT l E (d - 1) m_Choir_catchCold [(.ref rc, 11), (.int (iN a), 0)] (setR M rc (M rc)) (fun v2 M2 => CT l E (d - 1) m_FN_answerOr [(.ref 0, 0), (.int (toI v2), 0), (.int (iN 7), 0)] M2 (fun v3 M3 => K (.int (toI v3), 0) M3)) :=
      c_catchCold (by omega) hV a1 a2 (c_answerOr (by omega) cr.1 cr.2 (by omega) (by omega) h)
    rw [← hm] at goal
    exact goal
  · rw [c, if_neg (by simp), setR_self] at h; exact h
