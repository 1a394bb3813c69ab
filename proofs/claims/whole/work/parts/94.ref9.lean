theorem lendC_08 {C : Ch} {a b n : Int} {j : Nat} : (lendC C a b n).2 0 j = C 0 j := by
  unfold lendC
  split
  · dsimp only
    rw [upd2_c _ _ (by decide), upd2_c _ _ (by decide), oweC_c (by decide)]
  · rfl
theorem payC_08 {C : Ch} {a b n : Int} {j : Nat} (h : j ≠ 15) : (payC C a b n).2 0 j = C 0 j := by
  unfold payC
  split
  · show settleC _ 0 j = _
    rw [settleC_c (by decide), takeOffC_c (by decide) (by decide), handC_0 h]
  · rfl
theorem r_lend {l : Launch} {E : EnvT} {d : Nat} {K : AV → Mem → Prop} {M : Mem} {C Z : Ch} {A : Nat → Int} {a b n : Int} (hd : 7 ≤ d) (hB : Z 0 21 = 0) (hW : WC C) (hR : RR C A 0) (a1 : -2147483648 ≤ a) (a2 : a < 2147483648) (b1 : -2147483648 ≤ b) (b2 : b < 2147483648) (n1 : -2147483648 ≤ n) (n2 : n < 2147483648) (h : ∀ A', RR (lendQ C a b n).2 A' 0 → FrA 0 A A' → K (.int (iN (lendQ C a b n).1.1), 0) (zA M (sZ Z (lendQ C a b n).1.2) A')) : CT l E d m_Mod_lend [(.ref 24, 41), (.int (iN a), 0), (.int (iN b), 0), (.int (iN n), 0)] (zA M Z A) K := by
  refine CT.of pn_Mod (Nat.le_of_ble_eq_true rfl) ?_
  have hV := hW.1
  have hn := hV.n
  unfold lendQ at h
  refine b_Mod_lend_0 (by omega) (r_areTwo (by omega) hB hV hR a1 a2 b1 b2 ?_)
  rw [toI_int, b2i_z]
  refine ⟨fun c => r_refuse (by omega) (by omega) (by omega) ?_, fun c => r_isFromI (by omega) n1 n2 (by omega) (by omega) (by omega) (by omega) ?_⟩
  · rw [c, Bool.false_and, if_neg (by simp)] at h
    exact h A hR (FrA.rf _ _)
  · rw [Bool.not_eq_false] at c
    rw [toI_int, b2i_z, decide_eq_false_iff_not]
    refine ⟨fun c2 => ?_, fun c2 => r_refuse (by omega) (by omega) (by omega) ?_⟩
    · have t := twoB_spec c
      rw [c, decide_eq_true (by omega), Bool.and_true, if_pos rfl] at h
      obtain ⟨s, rfl⟩ : ∃ s : Nat, a = s := ⟨a.toNat, (by omega)⟩
      obtain ⟨t', rfl⟩ : ∃ s : Nat, b = s := ⟨b.toNat, (by omega)⟩
      refine c_lends (by omega) hB hW hR c (by omega) (by omega) (fun A' hR' hf => ?_)
      have hV2 := (WC_lend (a := s) (b := t') (n := n) hW (by omega) (by omega)).1
      have e08 : (lendC C s t' n).2 0 8 = C 0 8 := lendC_08
      rw [toI_int, b2i_z]
      refine ⟨fun c4 => r_refuse (by omega) (by omega) (by omega) ?_, fun c4 => c_owes (x := (t' : Int)) (s := s) (by omega) hB hV2 hR' (by omega) (by omega) (by omega) (r_gives (by omega) ?_)⟩
      · rw [c4] at h; exact h A' hR' hf
      · rw [Bool.not_eq_false] at c4
        rw [c4] at h; exact h A' hR' hf
    · rw [decide_eq_false (by omega), Bool.and_false, if_neg (by simp)] at h
      exact h A hR (FrA.rf _ _)
theorem r_pay {l : Launch} {E : EnvT} {d : Nat} {K : AV → Mem → Prop} {M : Mem} {C Z : Ch} {A : Nat → Int} {a b n : Int} (hd : 7 ≤ d) (hB : Z 0 21 = 0) (hW : WC C) (hR : RR C A 0) (a1 : -2147483648 ≤ a) (a2 : a < 2147483648) (b1 : -2147483648 ≤ b) (b2 : b < 2147483648) (n1 : -2147483648 ≤ n) (n2 : n < 2147483648) (h : ∀ A', RR (payQ C a b n).2 A' 0 → FrA 0 A A' → K (.int (iN (payQ C a b n).1.1), 0) (zA M (sZ Z (payQ C a b n).1.2) A')) : CT l E d m_Mod_pay [(.ref 24, 41), (.int (iN a), 0), (.int (iN b), 0), (.int (iN n), 0)] (zA M Z A) K := by
  refine CT.of pn_Mod (Nat.le_of_ble_eq_true rfl) ?_
  have hV := hW.1
  have hn := hV.n
  unfold payQ at h
  refine b_Mod_pay_0 (by omega) (r_areTwo (by omega) hB hV hR a1 a2 b1 b2 ?_)
  rw [toI_int, b2i_z]
  refine ⟨fun c => r_refuse (by omega) (by omega) (by omega) ?_, fun c => r_isFromI (by omega) n1 n2 (by omega) (by omega) (by omega) (by omega) ?_⟩
  · rw [c, Bool.false_and, if_neg (by simp)] at h
    exact h A hR (FrA.rf _ _)
  · rw [Bool.not_eq_false] at c
    rw [toI_int, b2i_z, decide_eq_false_iff_not]
    refine ⟨fun c2 => ?_, fun c2 => r_refuse (by omega) (by omega) (by omega) ?_⟩
    · have t := twoB_spec c
      rw [c, decide_eq_true (by omega), Bool.and_true, if_pos rfl] at h
      obtain ⟨s, rfl⟩ : ∃ s : Nat, a = s := ⟨a.toNat, (by omega)⟩
      obtain ⟨t', rfl⟩ : ∃ s : Nat, b = s := ⟨b.toNat, (by omega)⟩
      refine c_pays (by omega) hB hW hR c (by omega) (by omega) (fun A' hR' hf => ?_)
      have hV2 := (WC_pay (a := s) (b := t') (n := n) hW (by omega)).1
      have e08 : (payC C s t' n).2 0 8 = C 0 8 := payC_08 (by decide)
      rw [toI_int, b2i_z]
      refine ⟨fun c4 => r_refuse (by omega) (by omega) (by omega) ?_, fun c4 => c_owes (x := (s : Int)) (s := t') (by omega) hB hV2 hR' (by omega) (by omega) (by omega) (r_gives (by omega) ?_)⟩
      · rw [c4] at h; exact h A' hR' hf
      · rw [Bool.not_eq_false] at c4
        rw [c4] at h; exact h A' hR' hf
    · rw [decide_eq_false (by omega), Bool.and_false, if_neg (by simp)] at h
      exact h A hR (FrA.rf _ _)
theorem r_chord {l : Launch} {E : EnvT} {d : Nat} {K : AV → Mem → Prop} {M : Mem} {C Z : Ch} {A : Nat → Int} {a b : Int} (hd : 7 ≤ d) (hB : Z 0 21 = 0) (hW : WC C) (hR : RR C A 0) (a1 : -2147483648 ≤ a) (a2 : a < 2147483648) (b1 : -2147483648 ≤ b) (b2 : b < 2147483648) (h : ∀ A', RR (chordQ C a b).2 A' 0 → FrA 0 A A' → K (.int (iN (chordQ C a b).1.1), 0) (zA M (sZ Z (chordQ C a b).1.2) A')) : CT l E d m_Mod_chord [(.ref 24, 41), (.int (iN a), 0), (.int (iN b), 0)] (zA M Z A) K := by
  refine CT.of pn_Mod (Nat.le_of_ble_eq_true rfl) ?_
  have hV := hW.1
  have hn := hV.n
  unfold chordQ at h
  refine b_Mod_chord_0 (by omega) (r_areTwo (by omega) hB hV hR a1 a2 b1 b2 ?_)
  rw [toI_int, b2i_z]
  refine ⟨fun c => ?_, fun c => r_refuse (by omega) (by omega) (by omega) ?_⟩
  · rw [Bool.not_eq_false] at c
    have t := twoB_spec c
    rw [c, if_pos rfl] at h
    obtain ⟨s, rfl⟩ : ∃ s : Nat, a = s := ⟨a.toNat, (by omega)⟩
    obtain ⟨t', rfl⟩ : ∃ s : Nat, b = s := ⟨b.toNat, (by omega)⟩
    have nr := netC_rng (a := s) (b := t') hV
    refine c_chordOf (by omega) hB hW hR (by omega) (by omega) (by omega) (fun A' hR' hf => ?_)
    rw [toI_int, iN_eq0 (a := (netC C s t').1) (by omega) (by omega)]
    refine ⟨fun c4 => r_gives (by omega) ?_, fun c4 => r_refuse (by omega) (by omega) (by omega) ?_⟩
    · rw [if_neg c4] at h; exact h A' hR' hf
    · rw [if_pos c4] at h; exact h A' hR' hf
  · rw [c, if_neg (by simp)] at h
    exact h A hR (FrA.rf _ _)
theorem r_sunday {l : Launch} {E : EnvT} {d : Nat} {K : AV → Mem → Prop} {M : Mem} {C Z : Ch} {A : Nat → Int} (hd : 8 ≤ d) (hB : Z 0 21 = 0) (hW : WC C) (hR : RR C A 0) (h : ∀ A', RR (sunQ C).2 A' 0 → FrA 0 A A' → K (.int (iN (sunQ C).1.1), 0) (zA M (sZ Z (sunQ C).1.2) A')) : CT l E d m_Mod_sunday [(.ref 24, 41)] (zA M Z A) K := by
  refine CT.of pn_Mod (Nat.le_of_ble_eq_true rfl) ?_
  unfold sunQ at h
  refine b_Mod_sunday_0 (by omega) (c_sundays (by omega) hB hW hR (fun A' hR' hf => ?_))
  rw [toI_int, b2i_z]
  refine ⟨fun c => r_refuse (by omega) (by omega) (by omega) ?_, fun c => r_allOwed (by omega) hB (WC_sunC hW) hR' (r_gives (by omega) ?_)⟩
  · rw [c] at h; exact h A' hR' hf
  · rw [Bool.not_eq_false] at c
    rw [c] at h; exact h A' hR' hf
theorem r_cold {l : Launch} {E : EnvT} {d : Nat} {K : AV → Mem → Prop} {M : Mem} {C Z : Ch} {A : Nat → Int} {a : Int} (hd : 8 ≤ d) (hB : Z 0 21 = 0) (hW : WC C) (hR : RR C A 0) (a1 : -2147483648 ≤ a) (a2 : a < 2147483648) (h : ∀ A', RR (coldQ C a).2 A' 0 → FrA 0 A A' → K (.int (iN (coldQ C a).1.1), 0) (zA M (sZ Z (coldQ C a).1.2) A')) : CT l E d m_Mod_cold [(.ref 24, 41), (.int (iN a), 0)] (zA M Z A) K := by
  refine CT.of pn_Mod (Nat.le_of_ble_eq_true rfl) ?_
  have hV := hW.1
  have hn := hV.n
  unfold coldQ at h
  refine b_Mod_cold_0 (by omega) (r_isLiving (by omega) hB hV hR a1 a2 ?_)
  rw [toI_int, b2i_z]
  refine ⟨fun c => ?_, fun c => r_refuse (by omega) (by omega) (by omega) ?_⟩
  · rw [Bool.not_eq_false] at c
    have t := livesB_spec c
    rw [c, if_pos rfl] at h
    obtain ⟨s, rfl⟩ : ∃ s : Nat, a = s := ⟨a.toNat, (by omega)⟩
    have rs := hR.2.1 s t.2
    refine c_of (B := 0) (w := 3) (by omega) hB (by omega) (by omega) (by omega) ?_
    rw [rs.2.2.2.1, toI_int]
    cases hc : inS (C 0 11) s with
    | true =>
      refine ⟨fun c4 => absurd rfl c4, fun _ => r_refuse (by omega) (by omega) (by omega) ?_⟩
      have e : coldC C s = (-1, C) := by unfold coldC; rw [if_neg (by rw [show ((s : Int)).toNat = s from rfl, hc]; simp)]
      rw [e] at h
      exact h A hR (FrA.rf _ _)
    | false =>
      refine ⟨fun _ => c_coldsM (by omega) hB hW hR c hc (fun A' cr hR' hf => r_gives (by omega) ?_), fun c4 => absurd c4 (by decide)⟩
      have e : ansOr (coldC C s).1 7 = ans (coldC C s).1 := by unfold ansOr; rw [if_neg (by omega)]
      rw [e] at h
      exact h A' hR' hf
  · rw [c, if_neg (by simp)] at h
    exact h A hR (FrA.rf _ _)
theorem r_die {l : Launch} {E : EnvT} {d : Nat} {K : AV → Mem → Prop} {M : Mem} {C Z : Ch} {A : Nat → Int} {a : Int} (hd : 8 ≤ d) (hB : Z 0 21 = 0) (hW : WC C) (hR : RR C A 0) (a1 : -2147483648 ≤ a) (a2 : a < 2147483648) (h : ∀ A', RR (dieQ C a).2 A' 0 → FrA 0 A A' → K (.int (iN (dieQ C a).1.1), 0) (zA M (sZ Z (dieQ C a).1.2) A')) : CT l E d m_Mod_die [(.ref 24, 41), (.int (iN a), 0)] (zA M Z A) K := by
  refine CT.of pn_Mod (Nat.le_of_ble_eq_true rfl) ?_
  have hV := hW.1
  have hn := hV.n
  unfold dieQ at h
  refine b_Mod_die_0 (by omega) (r_isLiving (by omega) hB hV hR a1 a2 ?_)
  rw [toI_int, b2i_z]
  refine ⟨fun c => ?_, fun c => r_refuse (by omega) (by omega) (by omega) ?_⟩
  · rw [Bool.not_eq_false] at c
    have t := livesB_spec c
    rw [c, if_pos rfl] at h
    obtain ⟨s, rfl⟩ : ∃ s : Nat, a = s := ⟨a.toNat, (by omega)⟩
    exact c_dies (by omega) hB hW hR c (fun A' hR' hf => r_livingMany (by omega) hB (WC_bury hW) hR' (r_gives (by omega) (h A' hR' hf)))
  · rw [c, if_neg (by simp)] at h
    exact h A hR (FrA.rf _ _)
theorem r_well {l : Launch} {E : EnvT} {d : Nat} {K : AV → Mem → Prop} {M : Mem} {C Z : Ch} {A : Nat → Int} {a : Int} (hd : 5 ≤ d) (hB : Z 0 21 = 0) (hW : WC C) (hR : RR C A 0) (a1 : -2147483648 ≤ a) (a2 : a < 2147483648) (hn : livesB C a = false → K (.int (iN (-1)), 0) (zA M (sZ Z 1) A)) (h7 : livesB C a = true → inS (C 0 11) a.toNat = false → K (.int (iN (-1)), 0) (zA M (sZ Z 7) A)) (hy : livesB C a = true → inS (C 0 11) a.toNat = true → ∀ A', RR (upd2 C 0 11 (clrB (C 0 11) a.toNat)) A' 0 → FrA 0 A A' → K (.int (iN (popc (clrB (C 0 11) a.toNat).toNat)), 0) (zA M (sZ Z 0) A')) : CT l E d m_Mod_well [(.ref 24, 41), (.int (iN a), 0)] (zA M Z A) K := by
  refine CT.of pn_Mod (Nat.le_of_ble_eq_true rfl) ?_
  have hV := hW.1
  have hnn := hV.n
  refine b_Mod_well_0 (by omega) (r_isLiving (by omega) hB hV hR a1 a2 ?_)
  rw [toI_int, b2i_z]
  refine ⟨fun c => ?_, fun c => r_refuse (by omega) (by omega) (by omega) (hn c)⟩
  rw [Bool.not_eq_false] at c
  have t := livesB_spec c
  obtain ⟨s, rfl⟩ : ∃ s : Nat, a = s := ⟨a.toNat, (by omega)⟩
  have rs := hR.2.1 s t.2
  have s8 : s < 8 := (by omega)
  rw [show ((s : Int)).toNat = s from rfl] at h7 hy
  refine c_of (B := 0) (w := 3) (by omega) hB (by omega) (by omega) (by omega) ?_
  rw [rs.2.2.2.1, toI_int, b2i_z]
  refine ⟨fun c2 => c_singerRow (by omega) ?_, fun c2 => r_refuse (by omega) (by omega) (by omega) (h7 c c2)⟩
  rw [Bool.not_eq_false] at c2
  have m := hV.ms 11 (by omega) (by omega)
  have q := clrB_rng (s := s) m.1 m.2 s8
  have hW2 := WC_cold0 (s := s) hW s8
  have hR2 : RR (upd2 C 0 11 (clrB (C 0 11) s)) (updP A (0 + 6 + 8 * s + 3) (b2i false)) 0 := RR_cold hV hR s8 (fun x => by
    rw [inS_clrB m.1 m.2 s8]
    by_cases e : x = s
    · simp [e]
    · simp [e])
  have hf : FrA 0 A (updP A (0 + 6 + 8 * s + 3) (b2i false)) := (FrA.rf _ _).u _ (by omega) (by omega)
  rw [toI_int]
  simp only [iN_add, zA_u]
  rw [clA (z := 6 + 8 * (s : Int) + 3) (j := 0 + 6 + 8 * s + 3) (by omega) (by omega), show (iN 0).toInt = b2i false from rfl]
  refine ⟨inA (by omega) (by omega), r_sumOf (w := 3) (j := 11) (by omega) hB hW2 hR2 (Or.inl ⟨rfl, rfl⟩) ?_⟩
  rw [upd2_same, toI_int]
  obtain ⟨z, hz⟩ : ∃ z : Nat, clrB (C 0 11) s = z := ⟨(clrB (C 0 11) s).toNat, (by omega)⟩
  have hy := hy c c2 _ hR2 hf
  rw [hz] at q hy ⊢
  exact r_bits (by omega) (by omega) (r_gives (by omega) hy)
theorem r_earn {l : Launch} {E : EnvT} {d : Nat} {K : AV → Mem → Prop} {M : Mem} {C Z : Ch} {A : Nat → Int} {a b : Int} (hd : 5 ≤ d) (hB : Z 0 21 = 0) (hV : VB C) (hR : RR C A 0) (a1 : -2147483648 ≤ a) (a2 : a < 2147483648) (b1 : -2147483648 ≤ b) (b2 : b < 2147483648) (hn : ¬ (livesB C a = true ∧ 1 ≤ b ∧ b ≤ 999) → K (.int (iN (-1)), 0) (zA M (sZ Z 1) A)) (h7 : livesB C a = true → 1 ≤ b → b ≤ 999 → 9999 < C 2 a.toNat + b → K (.int (iN (-1)), 0) (zA M (sZ Z 7) A)) (hy : livesB C a = true → 1 ≤ b → b ≤ 999 → C 2 a.toNat + b ≤ 9999 → ∀ A', RR (upd2 C 2 a.toNat (C 2 a.toNat + b)) A' 0 → FrA 0 A A' → K (.int (iN (C 2 a.toNat + b)), 0) (zA M (sZ Z 0) A')) : CT l E d m_Mod_earn [(.ref 24, 41), (.int (iN a), 0), (.int (iN b), 0)] (zA M Z A) K := by
  refine CT.of pn_Mod (Nat.le_of_ble_eq_true rfl) ?_
  have hnn := hV.n
  refine b_Mod_earn_0 (by omega) (r_isLiving (by omega) hB hV hR a1 a2 ?_)
  rw [toI_int, b2i_z]
  refine ⟨fun c => r_refuse (by omega) (by omega) (by omega) (hn (by rw [c]; simp)), fun c => r_isFromI (by omega) b1 b2 (by omega) (by omega) (by omega) (by omega) ?_⟩
  rw [Bool.not_eq_false] at c
  rw [toI_int, b2i_z, decide_eq_false_iff_not]
  refine ⟨fun c2 => ?_, fun c2 => r_refuse (by omega) (by omega) (by omega) (hn (fun w => c2 w.2))⟩
  have t := livesB_spec c
  obtain ⟨s, rfl⟩ : ∃ s : Nat, a = s := ⟨a.toNat, (by omega)⟩
  rw [show ((s : Int)).toNat = s from rfl] at h7 hy
  have rs := hR.2.1 s t.2
  have pu := hV.pu s (by omega)
  refine c_of (B := 0) (w := 0) (by omega) hB (by omega) (by omega) (by omega) ?_
  rw [rs.1, toI_int, iN_add, iN_le (by omega) (by omega) (by omega) (by omega)]
  refine ⟨fun c3 => c_gets (by omega) (by omega) rs.1 (by omega) (by omega) ?_, fun c3 => r_refuse (by omega) (by omega) (by omega) (h7 c (by omega) (by omega) (by omega))⟩
  refine c_of (B := 0) (w := 0) (by omega) hB (by omega) (by omega) (by omega) (r_gives (by omega) ?_)
  rw [updP_at, if_pos rfl, toI_int]
  exact hy c (by omega) (by omega) c3 _ (RR_2 hV hR (by omega)) ((FrA.rf _ _).u _ (by omega) (by omega))
theorem r_hum {l : Launch} {E : EnvT} {d : Nat} {K : AV → Mem → Prop} {M : Mem} {C Z : Ch} {A : Nat → Int} {z : Int} (hd : 2 ≤ d) (hV : VB C) (hR : RR C A 0) (z1 : -2147483648 ≤ z) (z2 : z < 2147483648) (h : ∀ A', RR (humQ C z).2 A' 0 → FrA 0 A A' → K (.int (iN (b2i (humQ C z).1.1)), 0) (zA M (sZ Z (humQ C z).1.2) A')) : CT l E d m_Mod_hum [(.ref 24, 41), (.int (iN z), 0)] (zA M Z A) K := by
  refine CT.of pn_Mod (Nat.le_of_ble_eq_true rfl) ?_
  refine b_Mod_hum_0 (by omega) (r_isFromI (by omega) z1 z2 (by omega) (by omega) (by omega) (by omega) ?_)
  unfold humQ at h
  rw [toI_int, b2i_z, decide_eq_false_iff_not]
  simp only [zA_u]
  rw [clA (z := 1) (j := 0 + (13 - 12)) (by omega) (by omega), iN_small z1 z2]
  refine ⟨fun c => ⟨inA (by omega) (by omega), r_is (by omega) (by omega) (by omega) ⟨o01, ?_⟩⟩, fun c => r_is (by omega) (by omega) (by omega) ⟨z01, ?_⟩⟩
  · rw [if_pos (show inB z 50 = true from by unfold inB; rw [decide_eq_true]; omega)] at h
    exact h _ (RR_f hV hR (by omega) (by omega)) ((FrA.rf _ _).u _ (by omega) (by omega))
  · rw [if_neg (show ¬ inB z 50 = true from by unfold inB; rw [decide_eq_true_eq]; omega)] at h
    exact h A hR (FrA.rf _ _)
theorem r_name {l : Launch} {E : EnvT} {d : Nat} {K : AV → Mem → Prop} {M : Mem} {C Z : Ch} {A : Nat → Int} {a b : Int} (hd : 6 ≤ d) (hB : Z 0 21 = 0) (hV : VB C) (hR : RR C A 0) (a1 : -2147483648 ≤ a) (a2 : a < 2147483648) (b1 : -2147483648 ≤ b) (b2 : b < 2147483648) (hn : ¬ (livesB C a = true ∧ a ≠ b ∧ (b = -1 ∨ livesB C b = true)) → K (.int (iN 0), 0) (zA M (sZ Z 1) A)) (hy : livesB C a = true → a ≠ b → (b = -1 ∨ livesB C b = true) → ∀ A', RR (upd2 C 3 a.toNat b) A' 0 → FrA 0 A A' → K (.int (iN 1), 0) (zA M (sZ Z 0) A')) : CT l E d m_Mod_name [(.ref 24, 41), (.int (iN a), 0), (.int (iN b), 0)] (zA M Z A) K := by
  refine CT.of pn_Mod (Nat.le_of_ble_eq_true rfl) ?_
  have hnn := hV.n
  refine b_Mod_name_0 (by omega) (r_isLiving (by omega) hB hV hR a1 a2 ?_)
  rw [toI_int, b2i_z]
  refine ⟨fun c => r_is (by omega) (by omega) (by omega) ⟨z01, hn (by rw [c]; simp)⟩, fun c => ?_⟩
  rw [Bool.not_eq_false] at c
  have t := livesB_spec c
  obtain ⟨s, rfl⟩ : ∃ s : Nat, a = s := ⟨a.toNat, (by omega)⟩
  rw [show ((s : Int)).toNat = s from rfl] at hy
  have hR2 : RR (upd2 C 3 s b) (updP A (0 + 6 + 8 * s + 5) b) 0 := RR_3 hV hR (by omega)
  have hf : FrA 0 A (updP A (0 + 6 + 8 * s + 5) b) := (FrA.rf _ _).u _ (by omega) (by omega)
  have cl : (iN (6 + 8 * (s : Int) + 5)).toNatClampNeg = 0 + 6 + 8 * s + 5 := clA (by omega) (by omega)
  rw [iN_eq b1 b2 (by omega) (by omega)]
  refine ⟨fun c2 => c_singerRow (by omega) ?_, fun c2 => r_areTwo (by omega) hB hV hR a1 a2 b1 b2 ?_⟩
  · rw [toI_int]
    simp only [iN_add, zA_u]
    rw [cl, iN_small b1 b2]
    exact ⟨inA (by omega) (by omega), r_is (by omega) (by omega) (by omega) ⟨o01, hy c (by omega) (Or.inl c2) _ hR2 hf⟩⟩
  · rw [toI_int, b2i_z]
    refine ⟨fun c3 => c_singerRow (by omega) ?_, fun c3 => r_is (by omega) (by omega) (by omega) ⟨z01, hn (fun w => ?_)⟩⟩
    · rw [Bool.not_eq_false] at c3
      rw [toI_int]
      simp only [iN_add, zA_u]
      rw [cl, iN_small b1 b2]
      unfold twoB at c3
      simp only [Bool.and_eq_true, Bool.not_eq_true', decide_eq_false_iff_not] at c3
      exact ⟨inA (by omega) (by omega), r_is (by omega) (by omega) (by omega) ⟨o01, hy c c3.2.2 (Or.inr c3.2.1) _ hR2 hf⟩⟩
    · rcases w.2.2 with e | e
      · exact c2 e
      · unfold twoB at c3
        rw [c, e, decide_eq_false w.2.1] at c3
        cases c3
theorem r_chords {l : Launch} {E : EnvT} {d : Nat} {K : AV → Mem → Prop} {M : Mem} {C Z : Ch} {A : Nat → Int} (hd : 7 ≤ d) (hB : Z 0 21 = 0) (hW : WC C) (hR : RR C A 0) (h : ∀ A', RR (netAllC C).2 A' 0 → FrA 0 A A' → K (.int (iN (netAllC C).1), 0) (zA M (sZ Z 0) A')) : CT l E d m_Mod_chords [(.ref 24, 41)] (zA M Z A) K := by
  refine CT.of pn_Mod (Nat.le_of_ble_eq_true rfl) ?_
  have hnn := hW.1.n
  obtain ⟨n, hn⟩ : ∃ n : Nat, C 0 8 = n := ⟨(C 0 8).toNat, (by omega)⟩
  unfold netAllC at h
  rw [hn, show ((n : Int)).toNat = n from rfl] at h
  refine b_Mod_chords_0 (by omega) ?_
  have key : ∀ (m a : Nat) (q : Int × Ch) (A1 : Nat → Int), a + m = n → WC q.2 → q.2 0 8 = n → RR q.2 A1 0 → FrA 0 A A1 → netAllF n n 0 (0, C) = netAllF n m a q → G l E d m_Mod_chords 4 [(0, (.ref 24, 41)), (1, (.int (iN q.1), 0)), (2, (.int (iN a), 0))] [] (zA M Z A1) K := by
    intro m
    induction m with
    | zero =>
      intro a q A1 e1 w1 w2 w3 w4 he
      refine b_Mod_chords_4 (by omega) ?_
      simp only [zA_1]
      rw [clA (z := 0) (j := 0 + 0) (by omega) (by omega), w3.1.1, w2]
      refine ⟨inA (by omega) (by omega), fun _ => r_gives (by omega) ?_, fun c => absurd ((iN_le (by omega) (by omega) (by omega) (by omega)).mpr (by omega)) c⟩
      rw [he] at h
      exact h A1 w3 w4
    | succ m ih =>
      intro a q A1 e1 w1 w2 w3 w4 he
      refine b_Mod_chords_4 (by omega) ?_
      simp only [zA_1]
      rw [clA (z := 0) (j := 0 + 0) (by omega) (by omega), w3.1.1, w2]
      refine ⟨inA (by omega) (by omega), fun c => absurd ((iN_le (by omega) (by omega) (by omega) (by omega)).mp c) (by omega), fun _ => ?_⟩
      have he : _ = netAllF n m (a + 1) (netRow a (n - (a + 1)) (a + 1) q) := he
      rw [iN_add, show ((a : Int) + 1) = ((a + 1 : Nat) : Int) from rfl]
      have row : ∀ (f b : Nat) (q2 : Int × Ch) (A2 : Nat → Int), a < b → b + f = n → WC q2.2 → q2.2 0 8 = n → RR q2.2 A2 0 → FrA 0 A A2 → netRow a (n - (a + 1)) (a + 1) q = netRow a f b q2 → G l E d m_Mod_chords 18 [(0, (.ref 24, 41)), (1, (.int (iN q2.1), 0)), (2, (.int (iN a), 0)), (3, (.int (iN b), 0))] [] (zA M Z A2) K := by
        intro f
        induction f with
        | zero =>
          intro b q2 A2 x0 e2 y1 y2 y3 y4 hr
          refine b_Mod_chords_18 (by omega) ?_
          simp only [zA_1]
          rw [clA (z := 0) (j := 0 + 0) (by omega) (by omega), y3.1.1, y2]
          refine ⟨inA (by omega) (by omega), fun _ => ?_, fun c => absurd ((iN_le (by omega) (by omega) (by omega) (by omega)).mpr (by omega)) c⟩
          rw [hr] at he
          rw [iN_add]
          exact ih (a + 1) q2 A2 (by omega) y1 y2 y3 y4 he
        | succ f ih2 =>
          intro b q2 A2 x0 e2 y1 y2 y3 y4 hr
          refine b_Mod_chords_18 (by omega) ?_
          simp only [zA_1]
          rw [clA (z := 0) (j := 0 + 0) (by omega) (by omega), y3.1.1, y2]
          refine ⟨inA (by omega) (by omega), fun c => absurd ((iN_le (by omega) (by omega) (by omega) (by omega)).mp c) (by omega), fun _ => c_chordOf (by omega) hB y1 y3 (by omega) (by omega) (by omega) (fun A3 hR3 hf3 => ?_)⟩
          rw [toI_int, iN_add, iN_add]
          exact ih2 (b + 1) (q2.1 + (netC q2.2 a b).1, (netC q2.2 a b).2) A3 (by omega) (by omega) (WC_net y1) (by show (netC q2.2 a b).2 0 8 = n; rw [netC_c (by decide)]; exact y2) hR3 (y4.tr hf3) hr
      exact row (n - (a + 1)) (a + 1) q A1 (by omega) (by omega) w1 w2 w3 w4 rfl
  exact key n 0 (0, C) A (by omega) hW hn hR (FrA.rf _ _) rfl
