/-- a choir with no singer: no debts, nobody waits -/
def BK (C : Ch) : Prop := C 0 8 = 0 ∧ VB C ∧ (∀ i, i < 48 → C 7 i = 0) ∧ C 8 3 = 0
theorem WX.bk {C : Ch} (h : WX C) (h0 : C 0 8 = 0) : BK C := ⟨h0, h.1, WX_0 h h0⟩
theorem lend_0 {C : Ch} {a b n : Int} (h0 : C 0 8 = 0) : lendC C a b n = (false, C) := by
  unfold lendC
  rw [if_neg (fun q => by rw [two0 h0] at q; exact absurd q.1 Bool.false_ne_true)]
theorem pay_0 {C : Ch} {a b n : Int} (h0 : C 0 8 = 0) : payC C a b n = (false, C) := by
  unfold payC
  rw [if_neg (fun q => by rw [two0 h0] at q; exact absurd q.1 Bool.false_ne_true)]
theorem net_0 {C : Ch} {a b : Int} (h0 : C 0 8 = 0) : netC C a b = (0, C) := by
  unfold netC
  rw [if_neg (fun q => by rw [two0 h0] at q; exact absurd q.1 Bool.false_ne_true)]
theorem cold_0 {C : Ch} {z : Int} (h0 : C 0 8 = 0) : coldC C z = (-1, C) := by
  unfold coldC
  rw [if_neg (fun q => by rw [lives0 h0] at q; exact absurd q.1 Bool.false_ne_true)]
theorem bury_0 {C : Ch} {z : Int} (h0 : C 0 8 = 0) : buryC C z = (false, C) := by
  unfold buryC
  rw [if_neg (fun q => by rw [lives0 h0] at q; exact absurd q Bool.false_ne_true)]
theorem any_0 {L C : Ch} (h0 : C 0 8 = 0) : anyC L C = (false, L, C) := by
  unfold anyC
  rw [if_neg (fun q => by unfold manyC at q; have := popc_lo (C 0 12).toNat; omega)]
theorem BK.sun {C : Ch} (h : BK C) : BK (sunC C).2 := by
  refine ⟨by rw [sun_15 (by decide)]; exact h.1, VB_sunC h.2.1, ?_⟩
  rw [sun_0 h.1]
  split
  · dsimp only
    rw [upd2_c _ _ (show 7 ≠ 0 by decide), upd2_c _ _ (show 8 ≠ 0 by decide)]
    exact h.2.2
  · exact h.2.2
theorem debt0 {C : Ch} {x : Int} {b : Nat} (hV : VB C) (h7 : ∀ i, i < 48 → C 7 i = 0) (hb : b < 8) : debtC C x b = 0 := by
  rcases noteOf_rng hV x hb with q | ⟨k, q, -, k6, -⟩
  · exact debtC_none (slot_note1 q)
  · rw [debtC_slot (slot_note q)]
    exact h7 _ (by omega)
theorem owes0 {C : Ch} {x : Int} (h7 : ∀ i, i < 48 → C 7 i = 0) (h8 : C 8 3 = 0) : owesC C x = 0 := by
  unfold owesC
  rw [h8, sumN_zero (n := 48) (fun i hi => by show ifz (C 6 i == x) (C 7 i) = 0; rw [h7 i hi]; unfold ifz; split <;> rfl)]
  rfl
theorem place_fx {C : Ch} {x y : Int} : placeOfC (fx C) x y = placeOfC C x y := by
  unfold placeOfC
  rw [fx_c C (show 8 ≠ 6 by decide), fx_c C (show 9 ≠ 6 by decide), fx_c C (show 10 ≠ 6 by decide)]
theorem holds0 {Y C : Ch} {i : Nat} (hK : BK C) (hY : Y 3 i < 8) : holdsB Y (fx C) i = holdsB Y C i := by
  obtain ⟨h0, hV, h7, h8⟩ := hK
  have g7 : ∀ i, i < 48 → fx C 7 i = 0 := fun i hi => by rw [fx_c C (by decide)]; exact h7 i hi
  have g8 : fx C 8 3 = 0 := by rw [fx_c C (by decide)]; exact h8
  have e1 : owedC (fx C) (Y 2 i) (Y 3 i).toNat = owedC C (Y 2 i) (Y 3 i).toNat := by
    unfold owedC
    rw [debt0 (VB_fx hV) g7 (by omega), debt0 hV h7 (by omega), place_fx, fx_c C (show 11 ≠ 6 by decide)]
  have e2 : owesC (fx C) (Y 2 i) = owesC C (Y 2 i) := by rw [owes0 g7 g8, owes0 h7 h8]
  have e3 : isOwC (fx C) (Y 2 i).toNat = isOwC C (Y 2 i).toNat := by simp (disch := decide) only [isOwC, fx_c]
  unfold holdsB
  rw [e1, e2, e3, fx_c C (show 2 ≠ 6 by decide)]
theorem lifeDo_0 {Y L C : Ch} {i : Nat} (hK : BK C) : (lifeDo Y L (fx C) i).1 = (lifeDo Y L C i).1 ∧ (lifeDo Y L (fx C) i).2.1 = (lifeDo Y L C i).2.1 ∧ (lifeDo Y L (fx C) i).2.2 = fx (lifeDo Y L C i).2.2 ∧ BK (lifeDo Y L C i).2.2 := by
  have h0 := hK.1
  have h1 := fx0 h0
  unfold lifeDo
  by_cases e : Y 1 i = 3
  · rw [if_pos e, if_pos e, cold_0 h0, cold_0 h1]; exact ⟨rfl, rfl, rfl, hK⟩
  rw [if_neg e, if_neg e]
  by_cases e : Y 1 i = 9
  · rw [if_pos e, if_pos e, lend_0 h0, lend_0 h1]; exact ⟨rfl, rfl, rfl, hK⟩
  rw [if_neg e, if_neg e]
  by_cases e : Y 1 i = 11
  · rw [if_pos e, if_pos e, pay_0 h0, pay_0 h1]; exact ⟨rfl, rfl, rfl, hK⟩
  rw [if_neg e, if_neg e]
  by_cases e : Y 1 i = 12
  · rw [if_pos e, if_pos e, q_sunC]; exact ⟨rfl, rfl, rfl, hK.sun⟩
  rw [if_neg e, if_neg e]
  by_cases e : Y 1 i = 13
  · rw [if_pos e, if_pos e, bury_0 h0, bury_0 h1]; exact ⟨rfl, rfl, rfl, hK⟩
  rw [if_neg e, if_neg e]
  by_cases e : Y 1 i = 14
  · rw [if_pos e, if_pos e, net_0 h0, net_0 h1]; exact ⟨rfl, rfl, rfl, hK⟩
  rw [if_neg e, if_neg e]
  by_cases e : Y 1 i = 19
  · rw [if_pos e, if_pos e]; exact ⟨rfl, rfl, rfl, hK⟩
  rw [if_neg e, if_neg e, any_0 h0, any_0 h1]
  exact ⟨rfl, rfl, rfl, hK⟩
theorem step_0 {Y L C : Ch} {i : Nat} (hK : BK C) (hY : Y 3 i < 8) : (stepC2 Y L (fx C) i).1 = (stepC2 Y L C i).1 ∧ (stepC2 Y L (fx C) i).2.1 = (stepC2 Y L C i).2.1 ∧ (stepC2 Y L (fx C) i).2.2 = fx (stepC2 Y L C i).2.2 ∧ BK (stepC2 Y L C i).2.2 := by
  unfold stepC2
  by_cases e : Y 1 i = 1 ∨ Y 1 i = 17 ∨ Y 1 i = 18
  · rw [if_pos e, if_pos e, holds0 hK hY]; exact ⟨rfl, rfl, rfl, hK⟩
  rw [if_neg e, if_neg e]
  by_cases e : Y 1 i = 21
  · rw [if_pos e, if_pos e]; exact ⟨rfl, rfl, rfl, hK⟩
  rw [if_neg e, if_neg e]
  obtain ⟨a, b, c, k⟩ := lifeDo_0 (Y := Y) (L := L) (i := i) hK
  refine ⟨rfl, ?_, c, k⟩
  show missC (lifeDo Y L (fx C) i) = missC (lifeDo Y L C i)
  unfold missC
  rw [a, b]
theorem run_0 {Y : Ch} (hY : YV Y) (hB : YB Y) : ∀ (f : Nat) (i : Int) (L C : Ch), BK C → (runF Y f i L (fx C)).1 = (runF Y f i L C).1 ∧ (runF Y f i L (fx C)).2 = fx (runF Y f i L C).2 ∧ BK (runF Y f i L C).2
  | 0, _, _, _, hK => ⟨rfl, rfl, hK⟩
  | f + 1, i, L, C, hK => by
    unfold runF
    by_cases e : Y 0 6 ≤ i
    · rw [if_pos e, if_pos e]; exact ⟨rfl, rfl, hK⟩
    rw [if_neg e, if_neg e]
    have hi : i.toNat < 60 := by have := hB.1; omega
    by_cases e : L 0 7 ≠ 0
    · rw [if_pos e, if_pos e]; exact ⟨rfl, rfl, hK⟩
    rw [if_neg e, if_neg e]
    by_cases e : Y 1 i.toNat = 20
    · rw [if_pos e, if_pos e]; exact run_0 hY hB f _ _ C hK
    rw [if_neg e, if_neg e]
    by_cases e : L 0 2 < 300
    · rw [if_pos e, if_pos e]
      obtain ⟨a, b, c, k⟩ := step_0 (Y := Y) (L := upd2 L 0 2 (L 0 2 + 1)) (i := i.toNat) hK (hY _ hi).2.2.1.2
      rw [a, b, c]
      exact run_0 hY hB f _ _ _ k
    rw [if_neg e, if_neg e]
    exact run_0 hY hB f _ _ C hK
theorem runC_0 {Y L C : Ch} {sd : Int} (hY : YV Y) (hB : YB Y) (hK : BK C) : runC Y L (fx C) sd = ((runC Y L C sd).1, fx (runC Y L C sd).2) ∧ BK (runC Y L C sd).2 := by
  have h := run_0 hY hB 1000000 0 (runC0 L sd) C hK
  unfold runC
  generalize runF Y 1000000 0 (runC0 L sd) (fx C) = q at *
  generalize runF Y 1000000 0 (runC0 L sd) C = p at *
  obtain ⟨a, b, k⟩ := h
  refine ⟨?_, k⟩
  rw [a, b, fx_c C (show 0 ≠ 6 by decide), fx_c p.2 (show 0 ≠ 6 by decide)]
theorem mn_0 {Y C : Ch} {sd : Int} (hY : YV Y) (hB : YB Y) (hK : BK C) : ∀ (m i : Nat) (L D D' : Ch) (x : Int), (mnF Y (fx C) sd m i L D x).1 = (mnF Y C sd m i L D' x).1 ∧ (mnF Y (fx C) sd m i L D x).2.2 = (mnF Y C sd m i L D' x).2.2
  | 0, _, _, _, _, _ => ⟨rfl, rfl⟩
  | m + 1, i, L, D, D', x => by
    have e : runC Y L (fx C) (sd + i) = ((runC Y L C (sd + i)).1, fx (runC Y L C (sd + i)).2) := (runC_0 hY hB hK).1
    have ih := mn_0 (sd := sd) hY hB hK m (i + 1) (runC Y L C (sd + i)).1 (fx (runC Y L C (sd + i)).2) (runC Y L C (sd + i)).2 (x + allOwC (runC Y L C (sd + i)).2 0)
    unfold mnF
    rw [e]
    dsimp only
    rw [q_allOw]
    exact ih
theorem x_live {l : Launch} {E : EnvT} {d : Nat} {K : AV → Mem → Prop} {M : Mem} {Y L C Z : Ch} {A : Nat → Int} {sd : Int} (hd : 12 ≤ d) (hB : Z 0 21 = 0) (hW : WX C) (hR : RX C A 0) (hY : YV Y) (hYB : YB Y) (hP : Y 0 8 = 1 → YP Y (C 0 8)) (hRY : RY Y A 0) (hT : TL L) (s1 : -2147483648 ≤ sd) (s2 : sd < 2147483648) (hn : ¬ (0 ≤ sd ∧ sd ≤ 9999) → K (.int (iN (-1)), 0) (zA M (sZ Z 1) A)) (h6 : 0 ≤ sd → sd ≤ 9999 → Y 0 8 = 0 → K (.int (iN (-1)), 0) (zA M (sZ Z 6) A)) (hy : 0 ≤ sd → sd ≤ 9999 → Y 0 8 = 1 → ∀ (Z' : Ch) (A' : Nat → Int), WX (runC Y L C sd).2 → (runC Y L C sd).2 0 8 = C 0 8 → RX (runC Y L C sd).2 A' 0 → FrA 0 A A' → ZLT Z Z' → LT (runC Y L C sd).1 Z' → TL (runC Y L C sd).1 → K (.int (iN ((runC Y L C sd).1 0 2)), 0) (zA M (sZ Z' 0) A')) : CT l E d m_Mod_live [(.ref 24, 41), (.int (iN sd), 0)] (zA M Z A) K := by
  by_cases h0 : C 0 8 = 0
  · refine r_live (C := fx C) (Y := Y) (L := L) hd hB hW.2 hR hY hYB (fun q => by rw [fx_8]; exact hP q) hRY hT s1 s2 hn h6 (fun q1 q2 q3 Z' A' w r8 rr fa z lt tl => ?_)
    obtain ⟨e, k⟩ := runC_0 (Y := Y) (L := L) (sd := sd) hY hYB (hW.bk h0)
    rw [e] at w r8 rr lt tl ⊢
    dsimp only at w r8 rr lt tl ⊢
    rw [fx_8, fx_8] at r8
    exact hy q1 q2 q3 Z' A' ⟨k.2.1, w⟩ r8 rr fa z lt tl
  · exact r_live hd hB (WX_n h0 hW) ((RX_n h0).mp hR) hY hYB hP hRY hT s1 s2 hn h6 (fun q1 q2 q3 Z' A' w r8 rr fa z lt tl => hy q1 q2 q3 Z' A' w.x r8 ((RX_n (by rw [r8]; exact h0)).mpr rr) fa z lt tl)
theorem x_mean {l : Launch} {E : EnvT} {d : Nat} {K : AV → Mem → Prop} {M : Mem} {Y L C D Z : Ch} {A : Nat → Int} {sd n : Int} (hd : 12 ≤ d) (hB : Z 0 21 = 0) (hW : WX C) (hR : RX C A 0) (hY : YV Y) (hYB : YB Y) (hP : Y 0 8 = 1 → YP Y (C 0 8)) (hRY : RY Y A 0) (hT : TL L) (s1 : -2147483648 ≤ sd) (s2 : sd < 2147483648) (n1 : -2147483648 ≤ n) (n2 : n < 2147483648) (hn : ¬ (0 ≤ sd ∧ sd ≤ 9999 ∧ 1 ≤ n ∧ n ≤ 20 ∧ sd + n - 1 ≤ 9999) → K (.int (iN 0), 0) (zA M (sZ Z 1) A)) (h6 : 0 ≤ sd → sd ≤ 9999 → 1 ≤ n → n ≤ 20 → sd + n - 1 ≤ 9999 → Y 0 8 = 0 → K (.int (iN 0), 0) (zA M (sZ Z 6) A)) (hy : 0 ≤ sd → sd ≤ 9999 → 1 ≤ n → n ≤ 20 → sd + n - 1 ≤ 9999 → Y 0 8 = 1 → ∀ (Z' : Ch) (A' : Nat → Int), IM (fx C) A A' → ZLV Z Z' → TL (mnF Y C sd n.toNat 0 L D 0).1 → K (.int (iN 1), 0) (zA M (sZ (tfZ Z' (mnF Y C sd n.toNat 0 L D 0).2.2.toNat n.toNat) 0) A')) : CT l E d m_Mod_mean [(.ref 24, 41), (.int (iN sd), 0), (.int (iN n), 0)] (zA M Z A) K := by
  by_cases h0 : C 0 8 = 0
  · refine r_mean (C := fx C) (Y := Y) (L := L) (D := D) hd hB hW.2 hR hY hYB (fun q => by rw [fx_8]; exact hP q) hRY hT s1 s2 n1 n2 hn h6 (fun q1 q2 q3 q4 q5 q6 Z' A' im z tl => ?_)
    obtain ⟨e1, e2⟩ := mn_0 (Y := Y) (sd := sd) hY hYB (hW.bk h0) n.toNat 0 L D D 0
    rw [e1] at tl
    rw [e2]
    exact hy q1 q2 q3 q4 q5 q6 Z' A' im z tl
  · refine r_mean hd hB (WX_n h0 hW) ((RX_n h0).mp hR) hY hYB hP hRY hT s1 s2 n1 n2 hn h6 (fun q1 q2 q3 q4 q5 q6 Z' A' im z tl => hy q1 q2 q3 q4 q5 q6 Z' A' ?_ z tl)
    rw [fx_n h0]
    exact im
