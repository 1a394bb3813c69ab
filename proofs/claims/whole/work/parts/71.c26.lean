theorem c_payM {l : Launch} {E : EnvT} {d : Nat} {K : AV → Mem → Prop} {M : Mem} {r : Nat} {a b n : Int} (hd : 3 ≤ d) (hV : VB (M r)) (a1 : -2147483648 ≤ a) (a2 : a < 2147483648) (b1 : -2147483648 ≤ b) (b2 : b < 2147483648) (h1 : 0 ≤ n) (h2 : n ≤ 9999) (h : K (.int (iN (b2i (payC (M r) a b n).1)), 0) (setR M r (payC (M r) a b n).2)) : CT l E d m_Choir_payCoins [(.ref r, 11), (.int (iN a), 0), (.int (iN b), 0), (.int (iN n), 0)] M K := by
  have := c_payCoins (l := l) (E := E) (M := M) hd hV a1 a2 b1 b2 h1 h2 h
  rw [setR_self] at this
  exact this
theorem c_netM {l : Launch} {E : EnvT} {d : Nat} {K : AV → Mem → Prop} {M : Mem} {r : Nat} {a b : Int} (hd : 3 ≤ d) (hV : VB (M r)) (a1 : -2147483648 ≤ a) (a2 : a < 2147483648) (b1 : -2147483648 ≤ b) (b2 : b < 2147483648) (h : K (.int (iN (netC (M r) a b).1), 0) (setR M r (netC (M r) a b).2)) : CT l E d m_Choir_netTwo [(.ref r, 11), (.int (iN a), 0), (.int (iN b), 0)] M K := by
  have := c_netTwo (l := l) (E := E) (M := M) hd hV a1 a2 b1 b2 h
  rw [setR_self] at this
  exact this
theorem c_sunM {l : Launch} {E : EnvT} {d : Nat} {K : AV → Mem → Prop} {M : Mem} {r : Nat} (hd : 3 ≤ d) (hV : VB (M r)) (h : K (.int (iN (b2i (sunC (M r)).1)), 0) (setR M r (sunC (M r)).2)) : CT l E d m_Choir_keepSunday [(.ref r, 11)] M K := by
  have := c_keepSunday (l := l) (E := E) (M := M) hd hV h
  rw [setR_self] at this
  exact this
def payQ (C : Ch) (a b n : Int) : (Int × Int) × Ch :=
  if twoB C a b && decide (1 ≤ n ∧ n ≤ 999) then ((if (payC C a b n).1 then ans (owedC (payC C a b n).2 a b.toNat) else rfs 7), (payC C a b n).2) else (rfs 1, C)
theorem c_payQ {l : Launch} {E : EnvT} {d : Nat} {K : AV → Mem → Prop} {M : Mem} {rc : Nat} {a b n : Int} (hd : 4 ≤ d) (hF : FC M rc) (a1 : -2147483648 ≤ a) (a2 : a < 2147483648) (b1 : -2147483648 ≤ b) (b2 : b < 2147483648) (n1 : -2147483648 ≤ n) (n2 : n < 2147483648) (h : K (.int (iN (payQ (M rc) a b n).1.1), 0) (stM (setR M rc (payQ (M rc) a b n).2) (payQ (M rc) a b n).1.2)) : CT l E d m_FN_pay [(.ref 0, 0), (.int (iN a), 0), (.int (iN b), 0), (.int (iN n), 0)] M K := by
  refine CT.of pn_FN (Nat.le_of_ble_eq_true rfl) ?_
  have cl := hF.cl
  have hV := hF.2.2
  have hn := hV.n
  unfold payQ at h
  refine b_FN_pay_0 (by omega) ?_
  rw [hF.eq]
  refine ⟨cl, c_areTwo (by omega) hV a1 a2 b1 b2 ?_⟩
  rw [toI_int, b2i_z, hF.eq, iN_lt n1 n2 (by omega) (by omega), iN_le n1 n2 (by omega) (by omega)]
  refine ⟨fun c => c_refuse (by omega) (by omega) (by omega) ?_, fun c => ⟨fun c2 => c_refuse (by omega) (by omega) (by omega) ?_, fun c2 => ⟨fun c3 => ⟨cl, c_payM (by omega) hV a1 a2 b1 b2 (by omega) (by omega) ?_⟩, fun c3 => c_refuse (by omega) (by omega) (by omega) ?_⟩⟩⟩
  · rw [c, Bool.false_and, if_neg (by simp), setR_self] at h; exact h
  · rw [decide_eq_false (by omega), Bool.and_false, if_neg (by simp), setR_self] at h; exact h
  · rw [Bool.not_eq_false] at c
    have t := twoB_spec c
    rw [c, decide_eq_true (by omega), Bool.and_true, if_pos rfl] at h
    have hF2 := hF.set (VB_pay (a := a) (b := b) (n := n) hV (by omega))
    rw [toI_int, b2i_z, hF2.eq]
    refine ⟨fun c4 => ⟨cl, ?_⟩, fun c4 => c_refuse (by omega) (by omega) (by omega) ?_⟩
    · rw [Bool.not_eq_false] at c4
      rw [c4] at h
      obtain ⟨s, rfl⟩ : ∃ s : Nat, b = s := ⟨b.toNat, (by omega)⟩
      refine c_owedBetween (by omega) hF2.2.2 (x := a) (b := s) (by omega) (by omega) (by omega) (c_answer (by omega) ?_)
      rw [setR_same]
      exact h
    · rw [c4] at h; exact h
  · rw [decide_eq_false (by omega), Bool.and_false, if_neg (by simp), setR_self] at h; exact h
def chordQ (C : Ch) (a b : Int) : (Int × Int) × Ch := if twoB C a b then ((if (netC C a b).1 = 0 then rfs 7 else ans (netC C a b).1), (netC C a b).2) else (rfs 1, C)
theorem c_chordQ {l : Launch} {E : EnvT} {d : Nat} {K : AV → Mem → Prop} {M : Mem} {rc : Nat} {a b : Int} (hd : 4 ≤ d) (hF : FC M rc) (a1 : -2147483648 ≤ a) (a2 : a < 2147483648) (b1 : -2147483648 ≤ b) (b2 : b < 2147483648) (h : K (.int (iN (chordQ (M rc) a b).1.1), 0) (stM (setR M rc (chordQ (M rc) a b).2) (chordQ (M rc) a b).1.2)) : CT l E d m_FN_chord [(.ref 0, 0), (.int (iN a), 0), (.int (iN b), 0)] M K := by
  refine CT.of pn_FN (Nat.le_of_ble_eq_true rfl) ?_
  have cl := hF.cl
  have hV := hF.2.2
  unfold chordQ at h
  have nr := netC_rng hV (a := a) (b := b)
  refine b_FN_chord_0 (by omega) ?_
  rw [hF.eq]
  refine ⟨cl, c_areTwo (by omega) hV a1 a2 b1 b2 ?_⟩
  rw [toI_int, b2i_z, hF.eq]
  refine ⟨fun c => ⟨cl, c_netM (by omega) hV a1 a2 b1 b2 ?_⟩, fun c => c_refuse (by omega) (by omega) (by omega) ?_⟩
  · rw [Bool.not_eq_false] at c
    rw [c, if_pos rfl] at h
    rw [toI_int, iN_eq0 (by omega) (by omega)]
    refine ⟨fun c2 => c_answer (by omega) ?_, fun c2 => c_refuse (by omega) (by omega) (by omega) ?_⟩
    · rw [if_neg c2] at h; exact h
    · rw [if_pos c2] at h; exact h
  · rw [c, if_neg (by simp), setR_self] at h; exact h
def sunQ (C : Ch) : (Int × Int) × Ch := ((if (sunC C).1 then ans (allOwC (sunC C).2 0) else rfs 4), (sunC C).2)
theorem c_sunQ {l : Launch} {E : EnvT} {d : Nat} {K : AV → Mem → Prop} {M : Mem} {rc : Nat} (hd : 6 ≤ d) (hF : FC M rc) (h : K (.int (iN (sunQ (M rc)).1.1), 0) (stM (setR M rc (sunQ (M rc)).2) (sunQ (M rc)).1.2)) : CT l E d m_FN_sunday [(.ref 0, 0)] M K := by
  refine CT.of pn_FN (Nat.le_of_ble_eq_true rfl) ?_
  have cl := hF.cl
  have hV := hF.2.2
  unfold sunQ at h
  have hF2 := hF.set (VB_sunC hV)
  refine b_FN_sunday_0 (by omega) ?_
  rw [hF.eq]
  refine ⟨cl, c_sunM (by omega) hV ?_⟩
  rw [toI_int, b2i_z, hF2.eq]
  refine ⟨fun c => ⟨cl, c_allOwed (by omega) hF2.2.2 (c_answer (by omega) ?_)⟩, fun c => c_refuse (by omega) (by omega) (by omega) ?_⟩
  · rw [Bool.not_eq_false] at c
    rw [c] at h
    rw [setR_same]
    exact h
  · rw [c] at h; exact h
