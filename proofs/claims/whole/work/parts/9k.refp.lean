theorem r_lendsBy {l : Launch} {E : EnvT} {d : Nat} {K : AV → Mem → Prop} {M : Mem} {C Z : Ch} {A : Nat → Int} {a b n : Int} (hd : 7 ≤ d) (hB : Z 0 21 = 0) (hW : WC C) (hR : RR C A 0) (a1 : -2147483648 ≤ a) (a2 : a < 2147483648) (b1 : -2147483648 ≤ b) (b2 : b < 2147483648) (n1 : 1 ≤ n) (n2 : n ≤ 999) (h : ∀ A', RR (lendC C a b n).2 A' 0 → FrA 0 A A' → K (.int (iN (b2i (lendC C a b n).1)), 0) (zA M (if (lendC C a b n).1 then upd2 Z 12 1 (wr (Z 12 1 + n)) else Z) A')) : CT l E d m_Mod_lendsBy [(.ref 24, 41), (.int (iN a), 0), (.int (iN b), 0), (.int (iN n), 0)] (zA M Z A) K := by
  refine CT.of pn_Mod (Nat.le_of_ble_eq_true rfl) ?_
  have hV := hW.1
  have h8 := hV.n
  refine b_Mod_lendsBy_0 (by omega) (r_areTwo (by omega) hB hV hR a1 a2 b1 b2 ?_)
  rw [toI_int, b2i_z]
  refine ⟨fun c => ⟨z01, ?_⟩, fun c => ?_⟩
  · have e : lendC C a b n = (false, C) := by unfold lendC; rw [if_neg (fun q => by rw [c] at q; exact absurd q.1 (by decide))]
    rw [e] at h
    exact h A hR (FrA.rf _ _)
  · rw [Bool.not_eq_false] at c
    have t := twoB_spec c
    obtain ⟨s, rfl⟩ : ∃ s : Nat, a = s := ⟨a.toNat, (by omega)⟩
    obtain ⟨t', rfl⟩ : ∃ s : Nat, b = s := ⟨b.toNat, (by omega)⟩
    refine c_lends (by omega) hB hW hR c n1 n2 (fun A' hR' hf => ?_)
    have h := h A' hR' hf
    rw [toI_int, b2i_z, zA_c M Z A' (show 12 ≠ 1 by decide), wr_iN, zA_uo M Z A' (show 12 ≠ 1 by decide), cl4 (z := 1) (j := 1) rfl (by omega)]
    refine ⟨fun c2 => ⟨iN_in (by omega) (by omega) (by omega), iN_in (by omega) (by omega) (by omega), o01, ?_⟩, fun c2 => ⟨z01, ?_⟩⟩
    · rw [Bool.not_eq_false] at c2
      rw [c2] at h; exact h
    · rw [c2] at h; exact h
theorem r_lendsAny {l : Launch} {E : EnvT} {d : Nat} {K : AV → Mem → Prop} {M : Mem} {C Z : Ch} {A : Nat → Int} (hd : 8 ≤ d) (hB : Z 0 21 = 0) (hW : WC C) (hR : RR C A 0) (l1 : 0 ≤ Z 0 27) (l2 : Z 0 27 < 65536) (h0 : ¬ 0 < manyC C → K (.int (iN 0), 0) (zA M Z A)) (hy : 0 < manyC C → ∀ (q : Bool × Ch), q = lendC C (livAt C 0 (C 0 8).toNat (drawV (Z 0 27) / 8 % manyC C)) (livAt C 0 (C 0 8).toNat (drawV (drawV (Z 0 27)) / 8 % manyC C)) (drawV (drawV (drawV (Z 0 27))) / 8 % 20 + 1) → ∀ A', RR q.2 A' 0 → FrA 0 A A' → K (.int (iN (b2i q.1)), 0) (zA M (if q.1 then upd2 (upd2 Z 0 27 (drawV (drawV (drawV (Z 0 27))))) 12 1 (wr (Z 12 1 + (drawV (drawV (drawV (Z 0 27))) / 8 % 20 + 1))) else upd2 Z 0 27 (drawV (drawV (drawV (Z 0 27))))) A')) : CT l E d m_Mod_lendsAny [(.ref 24, 41)] (zA M Z A) K := by
  refine CT.of pn_Mod (Nat.le_of_ble_eq_true rfl) ?_
  have hV := hW.1
  have h8 := hV.n
  have pl := popc_lo (C 0 12).toNat
  have ml : -8 ≤ manyC C ∧ manyC C ≤ 8 := by
    have := popc_hi (C 0 12).toNat
    unfold manyC; omega
  refine b_Mod_lendsAny_0 (by omega) (r_livingMany (by omega) hB hW hR ?_)
  have m0 : ¬ manyC C < 0 := by
    obtain ⟨n, hn⟩ : ∃ n : Nat, C 0 8 = n := ⟨(C 0 8).toNat, (by omega)⟩
    rw [many_lv hW hn]
    have : ∀ (m s : Nat), 0 ≤ lvN C s m := by
      intro m
      induction m with
      | zero => intro s; exact Int.le_refl _
      | succ m ih =>
        intro s
        have := ih (s + 1)
        show 0 ≤ b2i (livesB C s) + lvN C (s + 1) m
        cases livesB C s <;> simp [b2i] <;> omega
    have := this n 0
    omega
  rw [toI_int, iN_eq0 (by omega) (by omega)]
  refine ⟨fun c => ?_, fun c => ⟨z01, h0 (by omega)⟩⟩
  have hy := hy (by omega) _ rfl
  have d1 := drawV_rng (Z 0 27)
  have d2 := drawV_rng (drawV (Z 0 27))
  have d3 := drawV_rng (drawV (drawV (Z 0 27)))
  have k1 : 0 ≤ drawV (Z 0 27) / 8 % manyC C ∧ drawV (Z 0 27) / 8 % manyC C < manyC C := ⟨Int.emod_nonneg _ (by omega), Int.emod_lt_of_pos _ (by omega)⟩
  have k2 : 0 ≤ drawV (drawV (Z 0 27)) / 8 % manyC C ∧ drawV (drawV (Z 0 27)) / 8 % manyC C < manyC C := ⟨Int.emod_nonneg _ (by omega), Int.emod_lt_of_pos _ (by omega)⟩
  have k3 : 0 ≤ drawV (drawV (drawV (Z 0 27))) / 8 % 20 ∧ drawV (drawV (drawV (Z 0 27))) / 8 % 20 < 20 := ⟨Int.emod_nonneg _ (by omega), Int.emod_lt_of_pos _ (by omega)⟩
  have r1 := livAt_rng C (C 0 8).toNat 0 (drawV (Z 0 27) / 8 % manyC C)
  have r2 := livAt_rng C (C 0 8).toNat 0 (drawV (drawV (Z 0 27)) / 8 % manyC C)
  have hB1 : upd2 Z 0 27 (drawV (Z 0 27)) 0 21 = 0 := by rw [upd2_k _ _ (by decide)]; exact hB
  refine r_livingMany (by omega) hB hW hR (r_draw (by omega) l1 l2 (by omega) (by omega) (r_livingAt (by omega) hB1 hW hR k1.1 k1.2 (r_livingMany (by omega) hB1 hW hR ?_)))
  simp only [toI_int]
  refine r_draw (by omega) (by rw [upd2_same]; omega) (by rw [upd2_same]; omega) (by omega) (by omega) ?_
  rw [upd2_same, upd2_twice]
  have hB2 : upd2 Z 0 27 (drawV (drawV (Z 0 27))) 0 21 = 0 := by rw [upd2_k _ _ (by decide)]; exact hB
  refine r_livingAt (by omega) hB2 hW hR k2.1 k2.2 (r_draw (n := 20) (by omega) (by rw [upd2_same]; omega) (by rw [upd2_same]; omega) (by omega) (by omega) ?_)
  rw [upd2_same, upd2_twice]
  have hB3 : upd2 Z 0 27 (drawV (drawV (drawV (Z 0 27)))) 0 21 = 0 := by rw [upd2_k _ _ (by decide)]; exact hB
  rw [toI_int, toI_int, iN_add]
  refine r_lendsBy (by omega) hB3 hW hR (by omega) (by omega) (by omega) (by omega) (by omega) (by omega) (fun A' hR' hf => ⟨bb01 _, ?_⟩)
  have := hy A' hR' hf
  rw [upd2_c _ _ (show 12 ≠ 0 by decide)]
  exact this
