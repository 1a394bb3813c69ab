theorem FC.set {M : Mem} {rc : Nat} {C : Ch} (h : FC M rc) (hV : VB C) : FC (setR M rc C) rc := by
  obtain ⟨h1, h2, -⟩ := h
  refine ⟨?_, h2, by rw [setR_same]; exact hV⟩
  rw [setR_ne _ _ (show 0 ≠ rc by omega)]
  exact h1
def lendQ (C : Ch) (a b n : Int) : (Int × Int) × Ch :=
  if twoB C a b && decide (1 ≤ n ∧ n ≤ 99) then ((if (lendC C a b n).1 then ans (owedC (lendC C a b n).2 b a.toNat) else rfs 7), (lendC C a b n).2) else (rfs 1, C)
theorem c_lendQ {l : Launch} {E : EnvT} {d : Nat} {K : AV → Mem → Prop} {M : Mem} {rc : Nat} {a b n : Int} (hd : 4 ≤ d) (hF : FC M rc) (a1 : -2147483648 ≤ a) (a2 : a < 2147483648) (b1 : -2147483648 ≤ b) (b2 : b < 2147483648) (n1 : -2147483648 ≤ n) (n2 : n < 2147483648) (h : K (.int (iN (lendQ (M rc) a b n).1.1), 0) (stM (setR M rc (lendQ (M rc) a b n).2) (lendQ (M rc) a b n).1.2)) : CT l E d m_FN_lend [(.ref 0, 0), (.int (iN a), 0), (.int (iN b), 0), (.int (iN n), 0)] M K := by
  refine CT.of pn_FN (Nat.le_of_ble_eq_true rfl) ?_
  have cl := hF.cl
  have hV := hF.2.2
  have hn := hV.n
  unfold lendQ at h
  refine b_FN_lend_0 (by omega) ?_
  rw [hF.eq]
  refine ⟨cl, c_areTwo (by omega) hV a1 a2 b1 b2 ?_⟩
  rw [toI_int, b2i_z, hF.eq, iN_lt n1 n2 (by omega) (by omega), iN_le n1 n2 (by omega) (by omega)]
  refine ⟨fun c => c_refuse (by omega) (by omega) (by omega) ?_, fun c => ⟨fun c2 => c_refuse (by omega) (by omega) (by omega) ?_, fun c2 => ⟨fun c3 => ⟨cl, ?_⟩, fun c3 => c_refuse (by omega) (by omega) (by omega) ?_⟩⟩⟩
  · rw [c, Bool.false_and, if_neg (by simp), setR_self] at h; exact h
  · rw [decide_eq_false (by omega), Bool.and_false, if_neg (by simp), setR_self] at h; exact h
  · rw [Bool.not_eq_false] at c
    have t := twoB_spec c
    rw [c, decide_eq_true (by omega), Bool.and_true, if_pos rfl] at h
    have hV2 := VB_lend (a := a) (b := b) (n := n) hV (by omega) (by omega)
    have hF2 := hF.set hV2
    have hm : M = setR M rc (M rc) := (setR_self M rc).symm
    have goal : CT l E (d - 1) m_Choir_lendCoins [(.ref rc, 11), (.int (iN a), 0), (.int (iN b), 0), (.int (iN n), 0)] (setR M rc (M rc)) (fun v4 M4 => ((¬ (toI v4) = 0 → (((M4 0 0 9).toNat, 11) ∈ CL ∧ CT l E (d - 1) m_Choir_owedBetween [(.ref (M4 0 0 9).toNat, 11), (.int (iN b), 0), (.int (iN a), 0)] M4 (fun v5 M5 => CT l E (d - 1) m_FN_answer [(.ref 0, 0), (.int (toI v5), 0)] M5 (fun v6 M6 => K (.int (toI v6), 0) M6)))) ∧ ((toI v4) = 0 → CT l E (d - 1) m_FN_refuse [(.ref 0, 0), (.int (iN 7), 0)] M4 (fun v7 M7 => K (.int (toI v7), 0) M7)))) := by
      refine c_lendCoins (by omega) hV a1 a2 b1 b2 (by omega) (by omega) ?_
      rw [toI_int, b2i_z, hF2.eq]
      refine ⟨fun c4 => ⟨cl, ?_⟩, fun c4 => c_refuse (by omega) (by omega) (by omega) ?_⟩
      · rw [Bool.not_eq_false] at c4
        rw [c4] at h
        obtain ⟨s, rfl⟩ : ∃ s : Nat, a = s := ⟨a.toNat, (by omega)⟩
        refine c_owedBetween (by omega) hF2.2.2 (x := b) (b := s) (by omega) (by omega) (by omega) (c_answer (by omega) ?_)
        rw [setR_same]
        exact h
      · rw [c4] at h; exact h
    rw [← hm] at goal
    exact goal
  · rw [decide_eq_false (by omega), Bool.and_false, if_neg (by simp), setR_self] at h; exact h
