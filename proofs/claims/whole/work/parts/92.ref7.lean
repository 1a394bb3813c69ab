theorem r_balanceOf {l : Launch} {E : EnvT} {d : Nat} {K : AV → Mem → Prop} {M : Mem} {C Z : Ch} {A : Nat → Int} {s : Nat} (hd : 7 ≤ d) (hB : Z 0 21 = 0) (hW : WC C) (hR : RR C A 0) (hs : (s : Int) < C 0 8) (h : K (.int (iN (balC C s)), 0) (zA M Z A)) : CT l E d m_Mod_balanceOf [(.ref 24, 41), (.int (iN s), 0)] (zA M Z A) K := by
  refine CT.of pn_Mod (Nat.le_of_ble_eq_true rfl) ?_
  refine b_Mod_balanceOf_0 (by omega) (r_owedAll (by omega) hB hW hR hs (r_owesAll (by omega) hB hW hR hs ?_))
  rw [toI_int, toI_int, iN_sub]
  exact h
theorem bal_dead {C : Ch} (hW : WC C) {s : Nat} (hs : (s : Int) < C 0 8) (hd : inS (C 0 12) s = true) : isOwC C s = 0 ∧ owesC C s = 0 := by
  have hV := hW.1
  have hn := hV.n
  have hw := hV.w
  have le := hV.le s (by omega)
  refine ⟨?_, ?_⟩
  · unfold isOwC
    rw [sumN_zero (fun k hk => ?_), sumN_zero (fun k hk => ?_)]
    · rfl
    · have w4 := hW.2.2.2.2.1 k (by omega)
      by_cases c : C 10 k = s
      · have q := w4.2.2.2.2.2
        rw [c] at q
        unfold alv at q
        rw [show ((s : Int)).toNat = s from rfl, hd] at q
        cases q
      · simp [ifz, c]
    · by_cases c : C 6 (6 * s + k) = -1
      · exact (hW.2.1 (6 * s + k) (by omega)).mp c
      · have q := (hW.2.2.1 (6 * s + k) (by omega) c).2.2.2.2.2
        unfold alv at q
        rw [show (6 * s + k) / 6 = s by omega, hd] at q
        cases q
  · unfold owesC
    rw [sumN_zero (fun i hi => ?_), sumN_zero (fun k hk => ?_)]
    · rfl
    · have w4 := hW.2.2.2.2.1 k (by omega)
      by_cases c : C 9 k = s
      · have q := w4.2.2.2.2.1
        rw [c] at q
        unfold alv at q
        rw [show ((s : Int)).toNat = s from rfl, hd] at q
        cases q
      · simp [ifz, c]
    · by_cases c : C 6 i = s
      · have q := (hW.2.2.1 i hi (by omega)).2.2.2.2.1
        rw [c] at q
        unfold alv at q
        rw [show ((s : Int)).toNat = s from rfl, hd] at q
        cases q
      · simp [ifz, c]
theorem r_lackOf {l : Launch} {E : EnvT} {d : Nat} {K : AV → Mem → Prop} {M : Mem} {C Z : Ch} {A : Nat → Int} {s : Nat} (hd : 8 ≤ d) (hB : Z 0 21 = 0) (hW : WC C) (hR : RR C A 0) (hs : (s : Int) < C 0 8) (h : K (.int (iN (lackC C s)), 0) (zA M Z A)) : CT l E d m_Mod_lackOf [(.ref 24, 41), (.int (iN s), 0)] (zA M Z A) K := by
  refine CT.of pn_Mod (Nat.le_of_ble_eq_true rfl) ?_
  have hV := hW.1
  have hn := hV.n
  have i1 := isOwC_rng hV (s := s) (by omega)
  have i2 := owesC_rng hV (s : Int)
  have i3 := hV.pu s (by omega)
  refine b_Mod_lackOf_0 (by omega) (c_isDead (by omega) hB hV hR hs ?_)
  rw [toI_int, b2i_z]
  unfold lackC at h
  refine ⟨fun c => c_of (B := 0) (w := 0) (by omega) hB (by omega) (by omega) (by omega) (r_balanceOf (by omega) hB hW hR hs ?_), fun c => ?_⟩
  · rw [(hR.2.1 s hs).1, toI_int, toI_int, iN_neg, iN_sub]
    refine c_max (by omega) (by omega) (by omega) (by unfold balC; omega) (by unfold balC; omega) ?_
    rw [show -C 2 s - balC C s = -(C 2 s + balC C s) by omega]
    exact h
  · rw [Bool.not_eq_false] at c
    have b := bal_dead hW hs c
    have p := hW.2.2.2.2.2.2.2.2.2.2 s hs c
    have e : balC C s = 0 := by unfold balC; omega
    rw [e, p] at h
    exact h
theorem r_freeOf {l : Launch} {E : EnvT} {d : Nat} {K : AV → Mem → Prop} {M : Mem} {C Z : Ch} {A : Nat → Int} {s : Nat} (hd : 3 ≤ d) (hB : Z 0 21 = 0) (hV : VB C) (hR : RR C A 0) (hs : (s : Int) < C 0 8) (h : K (.int (iN (freeC C s)), 0) (zA M Z A)) : CT l E d m_Mod_freeOf [(.ref 24, 41), (.int (iN s), 0)] (zA M Z A) K := by
  refine CT.of pn_Mod (Nat.le_of_ble_eq_true rfl) ?_
  have hn := hV.n
  have le := hV.le s (by omega)
  obtain ⟨q, hq⟩ : ∃ q : Nat, C 4 s = q := ⟨(C 4 s).toNat, (by omega)⟩
  unfold freeC at h
  rw [hq, show ((q : Int)).toNat = q from rfl] at h
  have key : ∀ k, k ≤ q → G l E d m_Mod_freeOf 4 [(0, (.ref 24, 41)), (1, (.int (iN s), 0)), (2, (.int (iN (cntN (fun k => C 6 (6 * s + k) == -1) k)), 0)), (3, (.int (iN k), 0))] [] (zA M Z A) K := by
    refine dn q ?_ (fun k hk ih => ?_)
    · refine b_Mod_freeOf_4 (by omega) (c_of (B := 0) (w := 1) (by omega) hB (by omega) (by omega) (by omega) ?_)
      rw [(hR.2.1 s hs).2.1, hq, toI_int]
      exact ⟨fun _ => h, fun c => absurd ((iN_le (by omega) (by omega) (by omega) (by omega)).mpr (by omega)) c⟩
    · have hh := hR.2.2.2.1 (6 * s + k) (by omega)
      have ho := hV.ho (6 * s + k) (by omega)
      refine b_Mod_freeOf_4 (by omega) (c_of (B := 0) (w := 1) (by omega) hB (by omega) (by omega) (by omega) ?_)
      rw [(hR.2.1 s hs).2.1, hq, toI_int]
      refine ⟨fun c => absurd ((iN_le (by omega) (by omega) (by omega) (by omega)).mp c) (by omega), fun _ => c_holderOf (B := 0) (by omega) hB (by omega) (by omega) (by omega) ?_⟩
      rw [hh.1, toI_int, iN_eq (by omega) (by omega) (by omega) (by omega), iN_add, iN_add, iN_add]
      refine ⟨fun c => ?_, fun c => ?_⟩
      · simpa [cntN, b2i, c] using ih
      · simpa [cntN, b2i, c] using ih
  exact b_Mod_freeOf_0 (by omega) (key 0 (by omega))
theorem r_status {l : Launch} {E : EnvT} {d : Nat} {K : AV → Mem → Prop} {M : Mem} {Z : Ch} {A : Nat → Int} (hd : 1 ≤ d) (h : K (.int (iN (Z 0 2)), 0) (zA M Z A)) : CT l E d m_Mod_status [(.ref 24, 41)] (zA M Z A) K := by
  refine CT.of pn_Mod (Nat.le_of_ble_eq_true rfl) ?_
  refine b_Mod_status_0 hd ?_
  rw [zA_0]
  exact h
theorem r_top {l : Launch} {E : EnvT} {d : Nat} {K : AV → Mem → Prop} {M : Mem} {Z : Ch} {A : Nat → Int} (hd : 1 ≤ d) (h : K (.long (lI (Z 0 3)), 0) (zA M Z A)) : CT l E d m_Mod_top [(.ref 24, 41)] (zA M Z A) K := by
  refine CT.of pn_Mod (Nat.le_of_ble_eq_true rfl) ?_
  refine b_Mod_top_0 hd ?_
  rw [zA_0]
  exact h
theorem r_bottom {l : Launch} {E : EnvT} {d : Nat} {K : AV → Mem → Prop} {M : Mem} {Z : Ch} {A : Nat → Int} (hd : 1 ≤ d) (h : K (.long (lI (Z 0 4)), 0) (zA M Z A)) : CT l E d m_Mod_bottom [(.ref 24, 41)] (zA M Z A) K := by
  refine CT.of pn_Mod (Nat.le_of_ble_eq_true rfl) ?_
  refine b_Mod_bottom_0 hd ?_
  rw [zA_0]
  exact h
theorem r_fault {l : Launch} {E : EnvT} {d : Nat} {K : AV → Mem → Prop} {M : Mem} {Z : Ch} {A : Nat → Int} {z : Int} (hd : 1 ≤ d) (z1 : -2147483648 ≤ z) (z2 : z < 2147483648) (h : K (.int (iN (if z = 0 then Z 0 16 else if z = 1 then Z 0 17 else -1)), 0) (zA M Z A)) : CT l E d m_Mod_fault [(.ref 24, 41), (.int (iN z), 0)] (zA M Z A) K := by
  refine CT.of pn_Mod (Nat.le_of_ble_eq_true rfl) ?_
  refine b_Mod_fault_0 hd ?_
  rw [zA_0, iN_eq0 z1 z2, iN_eq z1 z2 (by omega) (by omega)]
  refine ⟨fun c => ⟨fun c2 => ?_, fun c2 => ?_⟩, fun c => ?_⟩
  · rw [if_neg c, if_neg c2] at h; exact h
  · rw [if_neg c, if_pos c2] at h; exact h
  · rw [if_pos c] at h; exact h
theorem r_told {l : Launch} {E : EnvT} {d : Nat} {K : AV → Mem → Prop} {M : Mem} {C Z : Ch} {A : Nat → Int} {z : Int} (hd : 8 ≤ d) (hB : Z 0 21 = 0) (hW : WC C) (hR : RR C A 0) (z1 : -2147483648 ≤ z) (z2 : z < 2147483648) (h : K (.int (iN (toldQ C z).1), 0) (zA M (sZ Z (toldQ C z).2) A)) : CT l E d m_Mod_told [(.ref 24, 41), (.int (iN z), 0)] (zA M Z A) K := by
  refine CT.of pn_Mod (Nat.le_of_ble_eq_true rfl) ?_
  obtain ⟨f0, f1, f2, f3, f5⟩ := hR.1
  refine b_Mod_told_0 (by omega) ?_
  have ek : ∀ j : Int, -100 ≤ j → j ≤ 100 → (iN z = iN j ↔ z = j) := fun j j1 j2 => iN_eq z1 z2 (by omega) (by omega)
  rw [ek 0 (by omega) (by omega), ek 1 (by omega) (by omega), ek 2 (by omega) (by omega), ek 3 (by omega) (by omega), ek 4 (by omega) (by omega), ek 5 (by omega) (by omega), ek 6 (by omega) (by omega), ek 7 (by omega) (by omega), ek 8 (by omega) (by omega), ek 9 (by omega) (by omega)]
  simp only [zA_1]
  rw [clA (z := 5) (j := 0 + 5) (by omega) (by omega), f5, clA (z := 3) (j := 0 + 3) (by omega) (by omega), f3]
  unfold toldQ at h
  refine ⟨fun e => ⟨by rw [e]; exact inA (by omega) (by omega), r_gives (by omega) ?_⟩, fun n0 => ⟨fun e => ⟨by rw [e]; exact inA (by omega) (by omega), r_gives (by omega) ?_⟩, fun n1 => ⟨fun e => ⟨by rw [e]; exact inA (by omega) (by omega), r_gives (by omega) ?_⟩, fun n2 => ⟨fun e => r_notesHeld (by omega) hB hW hR (r_gives (by omega) ?_), fun n3 => ⟨fun e => ⟨inA (by omega) (by omega), r_gives (by omega) ?_⟩, fun n4 => ⟨fun e => r_allOwed (by omega) hB hW hR (r_gives (by omega) ?_), fun n5 => ⟨fun e => r_coins (by omega) hB hW hR (r_gives (by omega) ?_), fun n6 => ⟨fun e => ⟨inA (by omega) (by omega), r_gives (by omega) ?_⟩, fun n7 => ⟨fun e => r_sumOf (w := 3) (j := 11) (by omega) hB hW hR (Or.inl ⟨rfl, rfl⟩) (r_gives (by omega) ?_), fun n8 => ⟨fun e => r_sumOf (w := 6) (j := 12) (by omega) hB hW hR (Or.inr ⟨rfl, rfl⟩) (r_gives (by omega) ?_), fun n9 => r_refuse (by omega) (by omega) (by omega) ?_⟩⟩⟩⟩⟩⟩⟩⟩⟩⟩
  · rw [if_pos e] at h; rw [e, clA (z := 0) (j := 0 + 0) (by omega) (by omega), f0]; exact h
  · rw [if_neg n0, if_pos e] at h; rw [e, clA (z := 1) (j := 0 + 1) (by omega) (by omega), f1]; exact h
  · rw [if_neg n0, if_neg n1, if_pos e] at h; rw [e, clA (z := 2) (j := 0 + 2) (by omega) (by omega), f2]; exact h
  · rw [if_neg n0, if_neg n1, if_neg n2, if_pos e] at h; exact h
  · rw [if_neg n0, if_neg n1, if_neg n2, if_neg n3, if_pos e] at h; exact h
  · rw [if_neg n0, if_neg n1, if_neg n2, if_neg n3, if_neg n4, if_pos e] at h; exact h
  · rw [if_neg n0, if_neg n1, if_neg n2, if_neg n3, if_neg n4, if_neg n5, if_pos e] at h; exact h
  · rw [if_neg n0, if_neg n1, if_neg n2, if_neg n3, if_neg n4, if_neg n5, if_neg n6, if_pos e] at h; exact h
  · rw [if_neg n0, if_neg n1, if_neg n2, if_neg n3, if_neg n4, if_neg n5, if_neg n6, if_neg n7, if_pos e] at h; exact h
  · rw [if_neg n0, if_neg n1, if_neg n2, if_neg n3, if_neg n4, if_neg n5, if_neg n6, if_neg n7, if_neg n8, if_pos e] at h; exact h
  · rw [if_neg n0, if_neg n1, if_neg n2, if_neg n3, if_neg n4, if_neg n5, if_neg n6, if_neg n7, if_neg n8, if_neg n9] at h; exact h
theorem r_singer {l : Launch} {E : EnvT} {d : Nat} {K : AV → Mem → Prop} {M : Mem} {C Z : Ch} {A : Nat → Int} {a z : Int} (hd : 7 ≤ d) (hB : Z 0 21 = 0) (hW : WC C) (hR : RR C A 0) (a1 : -2147483648 ≤ a) (a2 : a < 2147483648) (z1 : -2147483648 ≤ z) (z2 : z < 2147483648) (h : K (.int (iN (singerQ C a z).1), 0) (zA M (sZ Z (singerQ C a z).2) A)) : CT l E d m_Mod_singer [(.ref 24, 41), (.int (iN a), 0), (.int (iN z), 0)] (zA M Z A) K := by
  refine CT.of pn_Mod (Nat.le_of_ble_eq_true rfl) ?_
  have hV := hW.1
  have hn := hV.n
  have ek : ∀ j : Int, -100 ≤ j → j ≤ 100 → (iN z = iN j ↔ z = j) := fun j j1 j2 => iN_eq z1 z2 (by omega) (by omega)
  unfold singerQ at h
  refine b_Mod_singer_0 (by omega) (r_isSinger (by omega) hV hR a1 a2 ?_)
  rw [toI_int, b2i_z, iN_lt0 z1 z2, iN_le z1 z2 (by omega) (by omega), ek 3 (by omega) (by omega), ek 4 (by omega) (by omega), ek 5 (by omega) (by omega), ek 6 (by omega) (by omega)]
  refine ⟨fun c => r_refuse (by omega) (by omega) (by omega) ?_, fun c => ?_⟩
  · rw [if_neg (by simp [c])] at h; exact h
  rw [Bool.not_eq_false] at c
  have t := knowsB_spec c
  obtain ⟨s, rfl⟩ : ∃ s : Nat, a = s := ⟨a.toNat, (by omega)⟩
  rw [if_pos c, show ((s : Int)).toNat = s from rfl] at h
  obtain ⟨g0, g1, g2, g3, g4, g5, g6⟩ := hR.2.1 s t.2
  have he := hV.he s (by omega)
  have bad : z < 0 ∨ 6 < z → K (.int (iN (-1)), 0) (zA M (sZ Z 1) A) := by
    intro q
    rw [if_neg (by omega), if_neg (by omega), if_neg (by omega), if_neg (by omega), if_neg (by omega), if_neg (by omega), if_neg (by omega)] at h
    exact h
  refine ⟨fun c2 => r_refuse (by omega) (by omega) (by omega) (bad (by omega)), fun c2 => ⟨fun c3 => ⟨fun e => c_of (B := 0) (w := 4) (by omega) hB (by omega) (by omega) (by omega) ?_, fun n3 => ⟨fun e => c_of (B := 0) (w := 5) (by omega) hB (by omega) (by omega) (by omega) ?_, fun n4 => ⟨fun e => r_owesAll (by omega) hB hW hR t.2 (r_gives (by omega) ?_), fun n5 => ⟨fun e => r_owedAll (by omega) hB hW hR t.2 (r_gives (by omega) ?_), fun n6 => ?_⟩⟩⟩⟩, fun c3 => r_refuse (by omega) (by omega) (by omega) (bad (by omega))⟩⟩
  · rw [if_neg (by omega), if_neg (by omega), if_neg (by omega), if_pos e] at h
    rw [g4]; exact r_gives (by omega) h
  · rw [if_neg (by omega), if_neg (by omega), if_neg (by omega), if_neg (by omega), if_pos e] at h
    rw [g5, toI_int]; exact r_orNone (by omega) (by omega) (by omega) h
  · rw [if_neg (by omega), if_neg (by omega), if_neg (by omega), if_neg (by omega), if_neg (by omega), if_pos e] at h; exact h
  · rw [if_neg (by omega), if_neg (by omega), if_neg (by omega), if_neg (by omega), if_neg (by omega), if_neg (by omega), if_pos e] at h; exact h
  · have : z = 0 ∨ z = 1 ∨ z = 2 := (by omega)
    rcases this with rfl | rfl | rfl
    · refine c_of (B := 0) (w := 0) (by omega) hB (by omega) (by omega) (by omega) ?_
      rw [g0]; exact r_gives (by omega) h
    · refine c_of (B := 0) (w := 1) (by omega) hB (by omega) (by omega) (by omega) ?_
      rw [g1]; exact r_gives (by omega) h
    · refine c_of (B := 0) (w := 2) (by omega) hB (by omega) (by omega) (by omega) ?_
      rw [g2]; exact r_gives (by omega) h
theorem r_line {l : Launch} {E : EnvT} {d : Nat} {K : AV → Mem → Prop} {M : Mem} {C Z : Ch} {A : Nat → Int} {a b : Int} (hd : 4 ≤ d) (hB : Z 0 21 = 0) (hV : VB C) (hR : RR C A 0) (a1 : -2147483648 ≤ a) (a2 : a < 2147483648) (z1 : -2147483648 ≤ b) (z2 : b < 2147483648) (h : K (.int (iN (lineQ C a b).1), 0) (zA M (sZ Z (lineQ C a b).2) A)) : CT l E d m_Mod_line [(.ref 24, 41), (.int (iN a), 0), (.int (iN b), 0)] (zA M Z A) K := by
  refine CT.of pn_Mod (Nat.le_of_ble_eq_true rfl) ?_
  have hn := hV.n
  unfold lineQ at h
  refine b_Mod_line_0 (by omega) (r_isNote (by omega) hB hV hR a1 a2 z1 z2 ?_)
  rw [toI_int, b2i_z]
  refine ⟨fun c => r_refuse (by omega) (by omega) (by omega) ?_, fun c => ?_⟩
  · rw [if_neg (by simp [c])] at h; exact h
  rw [Bool.not_eq_false] at c
  rw [if_pos c] at h
  have c' := c
  unfold noteB at c'
  rw [Bool.and_eq_true] at c'
  have t := knowsB_spec c'.1
  have t2 := of_decide_eq_true c'.2
  obtain ⟨s, rfl⟩ : ∃ s : Nat, a = s := ⟨a.toNat, (by omega)⟩
  obtain ⟨k, rfl⟩ : ∃ k : Nat, b = k := ⟨b.toNat, (by omega)⟩
  rw [show ((s : Int)).toNat = s from rfl, show ((k : Int)).toNat = k from rfl] at h
  rw [show ((s : Int)).toNat = s from rfl] at t2
  have le := hV.le s (by omega)
  simp only [zA_1, iN_mul, iN_add]
  rw [clA (z := (70 : Int) + 6 * s + k) (j := 0 + 70 + (6 * s + k)) (by omega) (by omega), hR.2.2.1 s k t.2 t2.2]
  exact ⟨inA (by omega) (by omega), r_gives (by omega) h⟩
theorem r_held {l : Launch} {E : EnvT} {d : Nat} {K : AV → Mem → Prop} {M : Mem} {C Z : Ch} {A : Nat → Int} {a b z : Int} (hd : 4 ≤ d) (hB : Z 0 21 = 0) (hV : VB C) (hR : RR C A 0) (a1 : -2147483648 ≤ a) (a2 : a < 2147483648) (b1 : -2147483648 ≤ b) (b2 : b < 2147483648) (z1 : -2147483648 ≤ z) (z2 : z < 2147483648) (hn : ¬ (noteB C a b = true ∧ 0 ≤ z ∧ z ≤ 1) → K (.int (iN (-1)), 0) (zA M (sZ Z 1) A)) (hy : ∀ s k : Nat, a = s → b = k → noteB C a b = true → 0 ≤ z → z ≤ 1 → ((C 6 (6 * s + k) = -1 → K (.int (iN (-1)), 0) (zA M (sZ Z 6) A)) ∧ (C 6 (6 * s + k) ≠ -1 → K (.int (iN (if z = 0 then C 6 (6 * s + k) else C 7 (6 * s + k))), 0) (zA M (sZ Z 0) A)))) : CT l E d m_Mod_held [(.ref 24, 41), (.int (iN a), 0), (.int (iN b), 0), (.int (iN z), 0)] (zA M Z A) K := by
  refine CT.of pn_Mod (Nat.le_of_ble_eq_true rfl) ?_
  have hnn := hV.n
  refine b_Mod_held_0 (by omega) (r_isNote (by omega) hB hV hR a1 a2 b1 b2 ?_)
  rw [toI_int, b2i_z, iN_lt0 z1 z2, iN_le z1 z2 (by omega) (by omega), iN_eq0 z1 z2]
  refine ⟨fun c => r_refuse (by omega) (by omega) (by omega) (hn (fun q => by rw [c] at q; exact absurd q.1 (by decide))), fun c => ?_⟩
  rw [Bool.not_eq_false] at c
  have c' := c
  unfold noteB at c'
  rw [Bool.and_eq_true] at c'
  have t := knowsB_spec c'.1
  have t2 := of_decide_eq_true c'.2
  obtain ⟨s, rfl⟩ : ∃ s : Nat, a = s := ⟨a.toNat, (by omega)⟩
  obtain ⟨k, rfl⟩ : ∃ k : Nat, b = k := ⟨b.toNat, (by omega)⟩
  rw [show ((s : Int)).toNat = s from rfl] at t2
  have le := hV.le s (by omega)
  have ho := hV.ho (6 * s + k) (by omega)
  have hh := hR.2.2.2.1 (6 * s + k) (by omega)
  refine ⟨fun c2 => r_refuse (by omega) (by omega) (by omega) (hn (by omega)), fun c2 => ⟨fun c3 => c_holderOf (B := 0) (by omega) hB (by omega) (by omega) (by omega) ?_, fun c3 => r_refuse (by omega) (by omega) (by omega) (hn (by omega))⟩⟩
  have hy := hy s k rfl rfl c (by omega) (by omega)
  rw [hh.1, toI_int, iN_eq (by omega) (by omega) (by omega) (by omega)]
  refine ⟨fun c4 => ⟨fun c5 => c_debtAt (B := 0) (by omega) hB (by omega) (by omega) (by omega) ?_, fun c5 => c_holderOf (B := 0) (by omega) hB (by omega) (by omega) (by omega) ?_⟩, fun c4 => r_refuse (by omega) (by omega) (by omega) (hy.1 c4)⟩
  · have q := hy.2 c4
    rw [if_neg c5] at q
    rw [hh.2]; exact r_gives (by omega) q
  · have q := hy.2 c4
    rw [if_pos c5] at q
    rw [hh.1]; exact r_gives (by omega) q
theorem r_owed {l : Launch} {E : EnvT} {d : Nat} {K : AV → Mem → Prop} {M : Mem} {C Z : Ch} {A : Nat → Int} {a b : Int} (hd : 6 ≤ d) (hB : Z 0 21 = 0) (hV : VB C) (hR : RR C A 0) (a1 : -2147483648 ≤ a) (a2 : a < 2147483648) (z1 : -2147483648 ≤ b) (z2 : b < 2147483648) (h : K (.int (iN (owedQ C a b).1), 0) (zA M (sZ Z (owedQ C a b).2) A)) : CT l E d m_Mod_owed [(.ref 24, 41), (.int (iN a), 0), (.int (iN b), 0)] (zA M Z A) K := by
  refine CT.of pn_Mod (Nat.le_of_ble_eq_true rfl) ?_
  have hn := hV.n
  unfold owedQ at h
  refine b_Mod_owed_0 (by omega) (r_isSinger (by omega) hV hR a1 a2 ?_)
  rw [toI_int, b2i_z]
  refine ⟨fun c => r_refuse (by omega) (by omega) (by omega) ?_, fun c => r_isSinger (by omega) hV hR z1 z2 ?_⟩
  · rw [c, Bool.false_and, if_neg (by simp)] at h; exact h
  rw [Bool.not_eq_false] at c
  have t := knowsB_spec c
  rw [c, Bool.true_and] at h
  rw [toI_int, b2i_z, iN_eq a1 a2 z1 z2]
  refine ⟨fun c2 => r_refuse (by omega) (by omega) (by omega) ?_, fun c2 => ?_⟩
  · rw [c2, Bool.false_and, if_neg (by simp)] at h; exact h
  rw [Bool.not_eq_false] at c2
  have t2 := knowsB_spec c2
  rw [c2, Bool.true_and] at h
  refine ⟨fun c3 => r_refuse (by omega) (by omega) (by omega) ?_, fun c3 => ?_⟩
  · rw [decide_eq_false (fun q => q c3), if_neg (by simp)] at h; exact h
  rw [decide_eq_true c3, if_pos rfl] at h
  obtain ⟨k, rfl⟩ : ∃ k : Nat, b = k := ⟨b.toNat, (by omega)⟩
  exact c_owes (by omega) hB hV hR t2.2 (by omega) (by omega) (r_gives (by omega) h)
theorem r_waiting {l : Launch} {E : EnvT} {d : Nat} {K : AV → Mem → Prop} {M : Mem} {C Z : Ch} {A : Nat → Int} {k z : Int} (hd : 2 ≤ d) (hV : VB C) (hR : RR C A 0) (a1 : -2147483648 ≤ k) (a2 : k < 2147483648) (z1 : -2147483648 ≤ z) (z2 : z < 2147483648) (h : K (.int (iN (waitQ C k z).1), 0) (zA M (sZ Z (waitQ C k z).2) A)) : CT l E d m_Mod_waiting [(.ref 24, 41), (.int (iN k), 0), (.int (iN z), 0)] (zA M Z A) K := by
  refine CT.of pn_Mod (Nat.le_of_ble_eq_true rfl) ?_
  have hw := hV.w
  unfold waitQ at h
  refine b_Mod_waiting_0 (by omega) ?_
  simp only [zA_1, iN_mul, iN_add]
  rw [clA (z := 5) (j := 0 + 5) (by omega) (by omega), hR.1.2.2.2.2, iN_lt0 z1 z2, iN_le z1 z2 (by omega) (by omega), iN_lt0 a1 a2, iN_lt a1 a2 (by omega) (by omega)]
  refine ⟨fun c => r_refuse (by omega) (by omega) (by omega) ?_, fun c => ⟨fun c2 => ⟨fun c3 => r_refuse (by omega) (by omega) (by omega) ?_, fun c3 => ⟨inA (by omega) (by omega), fun c4 => ?_, fun c4 => r_refuse (by omega) (by omega) (by omega) ?_⟩⟩, fun c2 => r_refuse (by omega) (by omega) (by omega) ?_⟩⟩
  · rw [if_neg (by omega)] at h; exact h
  · rw [if_pos (by omega), if_neg (by omega)] at h; exact h
  · rw [if_pos (by omega), if_pos (by omega)] at h
    obtain ⟨j, rfl⟩ : ∃ j : Nat, k = j := ⟨k.toNat, (by omega)⟩
    rw [show ((j : Int)).toNat = j from rfl] at h
    have q := hR.2.2.2.2 j c4
    have : z = 0 ∨ z = 1 ∨ z = 2 := (by omega)
    rcases this with rfl | rfl | rfl
    · rw [clA (z := (214 : Int) + 3 * j + 0) (j := 0 + 214 + 3 * j) (by omega) (by omega), q.1]
      exact ⟨inA (by omega) (by omega), r_gives (by omega) h⟩
    · rw [clA (z := (214 : Int) + 3 * j + 1) (j := 0 + 214 + 3 * j + 1) (by omega) (by omega), q.2.1]
      exact ⟨inA (by omega) (by omega), r_gives (by omega) h⟩
    · rw [clA (z := (214 : Int) + 3 * j + 2) (j := 0 + 214 + 3 * j + 2) (by omega) (by omega), q.2.2]
      exact ⟨inA (by omega) (by omega), r_gives (by omega) h⟩
  · rw [if_pos (by omega), if_neg (by omega)] at h; exact h
  · rw [if_neg (by omega)] at h; exact h
theorem r_sungAt {l : Launch} {E : EnvT} {d : Nat} {K : AV → Mem → Prop} {M : Mem} {C Z : Ch} {A : Nat → Int} {s k : Nat} (hd : 3 ≤ d) (hB : Z 0 21 = 0) (hV : VB C) (hR : RR C A 0) (hs : (s : Int) < C 0 8) (hk : (k : Int) < C 4 s) (h : K (.int (iN (sungC C s k)), 0) (zA M Z A)) : CT l E d m_Mod_sungAt [(.ref 24, 41), (.int (iN s), 0), (.int (iN k), 0)] (zA M Z A) K := by
  refine CT.of pn_Mod (Nat.le_of_ble_eq_true rfl) ?_
  have hn := hV.n
  have le := hV.le s (by omega)
  refine b_Mod_sungAt_0 (by omega) ?_
  simp only [zA_1, iN_mul, iN_add]
  rw [clA (z := (70 : Int) + 6 * s + k) (j := 0 + 70 + (6 * s + k)) (by omega) (by omega), hR.2.2.1 s k hs hk]
  refine ⟨inA (by omega) (by omega), c_debtAt (B := 0) (by omega) hB (by omega) (by omega) (by omega) (c_of (B := 0) (w := 2) (by omega) hB (by omega) (by omega) (by omega) ?_)⟩
  rw [(hR.2.2.2.1 (6 * s + k) (by omega)).2, (hR.2.1 s hs).2.2.1, toI_int, toI_int, iN_add, iN_mul, iN_sub]
  unfold sungC at h
  cases hb : inS (C 0 9) s with
  | false => rw [hb] at h; simpa [b2i] using h
  | true => rw [hb] at h; simpa [b2i] using h
theorem r_sung {l : Launch} {E : EnvT} {d : Nat} {K : AV → Mem → Prop} {M : Mem} {C Z : Ch} {A : Nat → Int} {a b : Int} (hd : 5 ≤ d) (hB : Z 0 21 = 0) (hV : VB C) (hR : RR C A 0) (a1 : -2147483648 ≤ a) (a2 : a < 2147483648) (b1 : -2147483648 ≤ b) (b2 : b < 2147483648) (hn : ¬ (livesB C a = true ∧ noteB C a b = true) → K (.int (iN (-1)), 0) (zA M (sZ Z 1) A)) (hy : livesB C a = true → noteB C a b = true → K (.int (iN (sungC C a.toNat b.toNat)), 0) (zA M (sZ Z 0) A)) : CT l E d m_Mod_sung [(.ref 24, 41), (.int (iN a), 0), (.int (iN b), 0)] (zA M Z A) K := by
  refine CT.of pn_Mod (Nat.le_of_ble_eq_true rfl) ?_
  refine b_Mod_sung_0 (by omega) (r_isLiving (by omega) hB hV hR a1 a2 ?_)
  rw [toI_int, b2i_z]
  refine ⟨fun c => r_refuse (by omega) (by omega) (by omega) (hn (fun q => by rw [c] at q; exact absurd q.1 (by decide))), fun c => r_isNote (by omega) hB hV hR a1 a2 b1 b2 ?_⟩
  rw [Bool.not_eq_false] at c
  rw [toI_int, b2i_z]
  refine ⟨fun c2 => r_refuse (by omega) (by omega) (by omega) (hn (fun q => by rw [c2] at q; exact absurd q.2 (by decide))), fun c2 => ?_⟩
  rw [Bool.not_eq_false] at c2
  have hy := hy c c2
  unfold noteB at c2
  rw [Bool.and_eq_true] at c2
  have t := knowsB_spec c2.1
  have t2 := of_decide_eq_true c2.2
  obtain ⟨s, rfl⟩ : ∃ s : Nat, a = s := ⟨a.toNat, (by omega)⟩
  obtain ⟨k, rfl⟩ : ∃ k : Nat, b = k := ⟨b.toNat, (by omega)⟩
  exact r_sungAt (by omega) hB hV hR t.2 t2.2 (r_gives (by omega) hy)
