theorem wr_w (x y : Int) : wr (wr x + y) = wr (x + y) := by
  have := wr_add x 0 y
  rwa [Int.add_zero, Int.zero_add] at this
/-- what a life has counted, the class's and the reference's; p0 = what was paid before it -/
def LR (L : Ch) (p0 p : Int) (Z : Ch) : Prop := Z 12 0 = L 0 3 ∧ Z 12 1 = L 0 4 ∧ Z 12 3 = L 0 6 ∧ Z 0 27 = L 0 8 ∧ Z 0 28 = L 0 2 ∧ Z 12 2 = wr (p - p0)
theorem upd2_nn (C : Ch) {c k c' k' : Nat} {v : Int} (h : ¬ (c' = c ∧ k' = k)) : upd2 C c k v c' k' = C c' k' := by
  unfold upd2
  rw [if_neg h]
def ZD (Z Z' : Ch) : Prop := ∀ c k, ¬ (c = 12 ∧ k < 4) → ¬ (c = 0 ∧ k = 27) → Z' c k = Z c k
theorem ZD.rf (Z : Ch) : ZD Z Z := fun _ _ _ _ => rfl
theorem r_paysBy {l : Launch} {E : EnvT} {d : Nat} {K : AV → Mem → Prop} {M : Mem} {Z : Ch} {A : Nat → Int} {b : Bool} {p q p0 : Int} (hd : 1 ≤ d) (hq : A 3 = q) (hz : Z 12 2 = wr (p - p0)) (h : K (.int (iN (b2i b)), 0) (zA M (upd2 Z 12 2 (wr (q - p0))) A)) : CT l E d m_Mod_paysBy [(.ref 24, 41), (.int (iN (b2i b)), 0), (.int (iN p), 0)] (zA M Z A) K := by
  refine CT.of pn_Mod (Nat.le_of_ble_eq_true rfl) ?_
  refine b_Mod_paysBy_0 (by omega) ⟨iN_in (by omega) (by omega) (by omega), inA (by omega) (by omega), iN_in (by omega) (by omega) (by omega), bb01 _, ?_⟩
  rw [zA_1, zA_c M Z A (show 12 ≠ 1 by decide), cl4 (z := 2) (j := 2) rfl (by omega), clA (z := 3) (j := 3) rfl (by omega), hq, hz, iN_sub, wr_iN, wr_w, zA_uo M Z A (show 12 ≠ 1 by decide), show p - p0 + (q - p) = q - p0 by omega]
  exact h
theorem bury_15 {C : Ch} {z : Int} {j : Nat} (h1 : j ≠ 11) (h2 : j ≠ 12) : (buryC C z).2 0 j = C 0 j := by
  unfold buryC
  split
  · dsimp only
    rw [settleC_c (by decide), upd2_k _ _ h2, upd2_k _ _ h1, buryC1_c (by decide)]
  · rfl
theorem sun_15 {C : Ch} {j : Nat} (h : j ≠ 14) : (sunC C).2 0 j = C 0 j := by
  unfold sunC
  split
  · show sunP C (C 0 8).toNat 0 0 j = C 0 j
    exact sunP_0 C _ _ h
  · rfl
theorem LR.z {L Z Z' : Ch} {p0 p q : Int} (h : LR L p0 p Z) (e : p = q) (hz : Z' = Z) : LR L p0 q Z' := by subst e; subst hz; exact h
def LB (L : Ch) : Prop := ∀ k, (k = 3 ∨ k = 4 ∨ k = 6) → wr (L 0 k) = L 0 k
/-- how much is lent or paid -/
def YQ (Y : Ch) (i : Nat) : Prop := Y 1 i = 9 ∨ Y 1 i = 11 → 1 ≤ Y 4 i ∧ Y 4 i ≤ 999
theorem r_does0 {l : Launch} {E : EnvT} {d : Nat} {K : AV → Mem → Prop} {M : Mem} {Y Z : Ch} {A : Nat → Int} {i : Nat} (hd : 1 ≤ d) (hi : i < 60) (hr : RYr Y A 0 i) (hk : Y 1 i = 19 ∨ Y 1 i = 1 ∨ Y 1 i = 17 ∨ Y 1 i = 18) (h : K (.int (iN 1), 0) (zA M Z A)) : CT l E d m_Mod_does [(.ref 24, 41), (.int (iN ((238 + 6 * i : Nat) : Int)), 0)] (zA M Z A) K := by
  refine CT.of pn_Mod (Nat.le_of_ble_eq_true rfl) ?_
  obtain ⟨r0, r1, _⟩ := hr
  rw [show 0 + 238 + 6 * i = 238 + 6 * i by omega] at r1
  refine b_Mod_does_0 (by omega) ?_
  simp only [zA_1, iN_add]
  rw [clA (z := ((238 + 6 * i : Nat) : Int)) (j := 238 + 6 * i) rfl (by omega), r1]
  refine ⟨inA (by omega) (by omega), inA (by omega) (by omega), inA (by omega) (by omega), inA (by omega) (by omega), ?_⟩
  have e : kR (Y 1 i) = 17 ∨ kR (Y 1 i) = 1604 ∨ kR (Y 1 i) = 1620 ∨ kR (Y 1 i) = 1621 := by
    rcases hk with k | k | k | k <;> rw [k]
    · exact Or.inl rfl
    · exact Or.inr (Or.inl rfl)
    · exact Or.inr (Or.inr (Or.inl rfl))
    · exact Or.inr (Or.inr (Or.inr rfl))
  have ne : ∀ j : Int, 0 ≤ j → j ≤ 16 → ¬ iN (kR (Y 1 i)) = iN j := fun j j1 j2 c => by
    rw [iN_eq (by omega) (by omega) (by omega) (by omega)] at c
    omega
  exact ⟨fun c => absurd c (ne 6 (by omega) (by omega)), fun _ => ⟨fun c => absurd c (ne 7 (by omega) (by omega)), fun _ => ⟨fun c => absurd c (ne 8 (by omega) (by omega)), fun _ => ⟨fun c => absurd c (ne 9 (by omega) (by omega)), fun _ => ⟨fun c => absurd c (ne 10 (by omega) (by omega)), fun _ => ⟨fun c => absurd c (ne 11 (by omega) (by omega)), fun _ => ⟨fun c => absurd c (ne 12 (by omega) (by omega)), fun _ => ⟨fun c => absurd c (ne 13 (by omega) (by omega)), fun _ => ⟨fun c => absurd c (ne 14 (by omega) (by omega)), fun _ => ⟨o01, h⟩⟩⟩⟩⟩⟩⟩⟩⟩⟩
theorem r_does {l : Launch} {E : EnvT} {d : Nat} {K : AV → Mem → Prop} {M : Mem} {Y L C Z : Ch} {A : Nat → Int} {i : Nat} {p0 : Int} (hd : 9 ≤ d) (hB : Z 0 21 = 0) (hW : WC C) (hR : RR C A 0) (hL : LI L) (hl : LR L p0 (C 0 15) Z) (lb : LB L) (hY : YV Y) (hi : i < 60) (hT : YT Y i) (hr : RYr Y A 0 i) (hk : Y 1 i = 3 ∨ Y 1 i = 9 ∨ Y 1 i = 11 ∨ Y 1 i = 12 ∨ Y 1 i = 13 ∨ Y 1 i = 14 ∨ Y 1 i = 15) (hq : YQ Y i) (h : ∀ Z' A', RR (lifeDo Y L C i).2.2 A' 0 → FrA 0 A A' → ZD Z Z' → LR (lifeDo Y L C i).2.1 p0 ((lifeDo Y L C i).2.2 0 15) Z' → K (.int (iN (b2i (lifeDo Y L C i).1)), 0) (zA M Z' A')) : CT l E d m_Mod_does [(.ref 24, 41), (.int (iN ((238 + 6 * i : Nat) : Int)), 0)] (zA M Z A) K := by
  refine CT.of pn_Mod (Nat.le_of_ble_eq_true rfl) ?_
  have hV := hW.1
  have h8 := hV.n
  obtain ⟨y1, y2, y3, y4, y5, y6⟩ := hY i hi
  have r1 := hr.g
  obtain ⟨z1, z2, z3, z4, z5, z6⟩ := hl
  have a3 : A 3 = C 0 15 := hR.1.2.2.2.1
  have p3 := hV.paid
  refine b_Mod_does_0 (by omega) ?_
  simp only [zA_1, iN_add]
  rw [clA (z := ((238 + 6 * i : Nat) : Int)) (j := 238 + 6 * i) rfl (by omega), clA (z := ((238 + 6 * i : Nat) : Int) + 1) (j := 238 + 6 * i + 1) (by omega) (by omega), clA (z := ((238 + 6 * i : Nat) : Int) + 2) (j := 238 + 6 * i + 2) (by omega) (by omega), clA (z := ((238 + 6 * i : Nat) : Int) + 3) (j := 238 + 6 * i + 3) (by omega) (by omega), clA (z := 3) (j := 3) rfl (by omega), r1, a3]
  refine ⟨inA (by omega) (by omega), inA (by omega) (by omega), inA (by omega) (by omega), inA (by omega) (by omega), ?_⟩
  have zp : ∀ v : Int, ZD Z (upd2 Z 12 2 v) := fun v c k hc _ => upd2_nn _ (by omega)
  rcases hk with k | k | k | k | k | k | k
  · have ek : kR (Y 1 i) = 6 := by rw [k]; rfl
    have el : lifeDo Y L C i = (decide ((coldC C (Y 2 i)).1 ≠ -1), L, (coldC C (Y 2 i)).2) := by unfold lifeDo; rw [if_pos k]
    rw [el] at h
    rw [ek, hr.g1 (by omega)]
    refine ⟨fun _ => r_isLiving (by omega) hB hV hR (by omega) (by omega) ?_, fun c => absurd rfl c⟩
    have no : (coldC C (Y 2 i)) = (-1, C) → K (.int (iN (b2i false)), 0) (zA M (upd2 Z 12 2 (wr (C 0 15 - p0))) A) := by
      intro e
      rw [e] at h
      exact h _ A hR (FrA.rf _ _) (zp _) ⟨by rw [upd2_k _ _ (by decide)]; exact z1, by rw [upd2_k _ _ (by decide)]; exact z2, by rw [upd2_k _ _ (by decide)]; exact z3, by rw [upd2_c _ _ (by decide)]; exact z4, by rw [upd2_c _ _ (by decide)]; exact z5, upd2_same _ _ _ _⟩
    rw [toI_int, b2i_z]
    refine ⟨fun c => r_paysBy (b := false) (by omega) a3 z6 ⟨z01, no ?_⟩, fun c => ?_⟩
    · unfold coldC; rw [if_neg (fun q => by rw [c] at q; exact absurd q.1 (by decide))]
    rw [Bool.not_eq_false] at c
    have t := livesB_spec c
    obtain ⟨s, hs⟩ : ∃ s : Nat, Y 2 i = s := ⟨(Y 2 i).toNat, (by omega)⟩
    rw [hs] at c h no ⊢
    refine c_of (B := 0) (w := 3) (by omega) hB (by omega) (by omega) (by omega) ?_
    rw [(hR.2.1 s (by omega)).2.2.2.1, toI_int, b2i_z]
    refine ⟨fun c2 => r_paysBy (b := false) (by omega) a3 z6 ⟨z01, no ?_⟩, fun c2 => c_coldsM (by omega) hB hW hR c c2 (fun A' cr hR' hf => ?_)⟩
    · unfold coldC; rw [if_neg (fun q => by have := q.2; rw [show ((s : Int)).toNat = s from rfl] at this; exact c2 this)]
    have cg := coldC_rng C s
    rw [toI_int, iN_lt0 (by omega) (by omega)]
    refine ⟨fun c3 => absurd c3 (by omega), fun _ => r_paysBy (b := true) (by omega) (hR'.1.2.2.2.1) z6 ⟨o01, ?_⟩⟩
    rw [decide_eq_true (by omega)] at h
    exact h _ A' hR' hf (zp _) ⟨by rw [upd2_k _ _ (by decide)]; exact z1, by rw [upd2_k _ _ (by decide)]; exact z2, by rw [upd2_k _ _ (by decide)]; exact z3, by rw [upd2_c _ _ (by decide)]; exact z4, by rw [upd2_c _ _ (by decide)]; exact z5, upd2_same _ _ _ _⟩
  · have ek : kR (Y 1 i) = 9 := by rw [k]; rfl
    have el : lifeDo Y L C i = ((lendC C (Y 2 i) (Y 3 i) (Y 4 i)).1, upd2 L 0 4 (wr (L 0 4 + if (lendC C (Y 2 i) (Y 3 i) (Y 4 i)).1 then Y 4 i else 0)), (lendC C (Y 2 i) (Y 3 i) (Y 4 i)).2) := by unfold lifeDo; rw [if_neg (by omega), if_pos k]
    rw [el] at h
    have t := hT.1 k
    have u1 := hq (Or.inl k)
    have l4 := lb 4 (by omega)
    rw [ek, hr.g1 (by omega), hr.g2 (by omega), hr.g3 (by omega)]
    refine ⟨fun c => absurd c (by decide +kernel), fun _ => ⟨fun c => absurd c (by decide +kernel), fun _ => ⟨fun c => absurd c (by decide +kernel), fun _ => ⟨fun _ => ⟨inA (by omega) (by omega), r_lendsBy (by omega) hB hW hR (by omega) (by omega) (by omega) (by omega) u1.1 u1.2 (fun A2 hR2 hf => ⟨bb01 _, ?_⟩)⟩, fun c => absurd rfl c⟩⟩⟩⟩
    have h15 := lendC_08 (C := C) (a := Y 2 i) (b := Y 3 i) (n := Y 4 i) (j := 15)
    generalize lendC C (Y 2 i) (Y 3 i) (Y 4 i) = q at h hR2 h15 ⊢
    obtain ⟨b, D⟩ := q
    dsimp only at h15 hR2
    cases b with
    | true =>
      refine h _ A2 hR2 hf (fun c j hc _ => by rw [if_pos rfl, upd2_nn _ (by omega)]) ⟨?_, ?_, ?_, ?_, ?_, ?_⟩ <;> simp [upd2, z1, z2, z3, z4, z5, z6, h15]
    | false =>
      refine h _ A2 hR2 hf (fun c j hc _ => by rw [if_neg (by simp)]) ⟨?_, ?_, ?_, ?_, ?_, ?_⟩ <;> simp [upd2, z1, z2, z3, z4, z5, z6, h15, l4]
  · have ek : kR (Y 1 i) = 10 := by rw [k]; rfl
    have el : lifeDo Y L C i = ((payC C (Y 2 i) (Y 3 i) (Y 4 i)).1, L, (payC C (Y 2 i) (Y 3 i) (Y 4 i)).2) := by unfold lifeDo; rw [if_neg (by omega), if_neg (by omega), if_pos k]
    rw [el] at h
    rw [ek, hr.g1 (by omega), hr.g2 (by omega)]
    refine ⟨fun c => absurd c (by decide +kernel), fun _ => ⟨fun c => absurd c (by decide +kernel), fun _ => ⟨fun c => absurd c (by decide +kernel), fun _ => ⟨fun c => absurd c (by decide +kernel), fun _ => ⟨fun _ => r_areTwo (by omega) hB hV hR (by omega) (by omega) (by omega) (by omega) ?_, fun c => absurd rfl c⟩⟩⟩⟩⟩
    have fin : ∀ (A2 : Nat → Int), RR (payC C (Y 2 i) (Y 3 i) (Y 4 i)).2 A2 0 → FrA 0 A A2 → K (.int (iN (b2i (payC C (Y 2 i) (Y 3 i) (Y 4 i)).1)), 0) (zA M (upd2 Z 12 2 (wr ((payC C (Y 2 i) (Y 3 i) (Y 4 i)).2 0 15 - p0))) A2) := by
      intro A2 hR2 hf
      exact h _ A2 hR2 hf (zp _) ⟨by rw [upd2_k _ _ (by decide)]; exact z1, by rw [upd2_k _ _ (by decide)]; exact z2, by rw [upd2_k _ _ (by decide)]; exact z3, by rw [upd2_c _ _ (by decide)]; exact z4, by rw [upd2_c _ _ (by decide)]; exact z5, upd2_same _ _ _ _⟩
    rw [toI_int, b2i_z]
    refine ⟨fun c => r_paysBy (b := false) (by omega) a3 z6 ⟨z01, ?_⟩, fun c => ⟨inA (by omega) (by omega), ?_⟩⟩
    · have e : payC C (Y 2 i) (Y 3 i) (Y 4 i) = (false, C) := by unfold payC; rw [if_neg (fun q => by rw [c] at q; exact absurd q.1 (by decide))]
      rw [e] at fin
      exact fin A hR (FrA.rf _ _)
    rw [Bool.not_eq_false] at c
    have t := twoB_spec c
    obtain ⟨s, hs⟩ : ∃ s : Nat, Y 2 i = s := ⟨(Y 2 i).toNat, (by omega)⟩
    obtain ⟨u, hu⟩ : ∃ s : Nat, Y 3 i = s := ⟨(Y 3 i).toNat, (by omega)⟩
    rw [zA_1, hr.g3 (by omega)]
    rw [hs, hu] at c fin ⊢
    have u1 := hq (Or.inr k)
    refine c_pays (by omega) hB hW hR c u1.1 u1.2 (fun A2 hR2 hf => ?_)
    have fin := fin A2 hR2 hf
    have q15 := hR2.1.2.2.2.1
    rw [toI_int, b2i_z]
    refine ⟨fun c2 => r_paysBy (b := false) (by omega) q15 z6 ⟨z01, ?_⟩, fun c2 => r_paysBy (b := true) (by omega) q15 z6 ⟨o01, ?_⟩⟩
    · rw [c2] at fin; exact fin
    · rw [Bool.not_eq_false] at c2
      rw [c2] at fin; exact fin
  · have ek : kR (Y 1 i) = 11 := by rw [k]; rfl
    have el : lifeDo Y L C i = ((sunC C).1, upd2 L 0 6 (wr (L 0 6 + if (sunC C).1 then 1 else 0)), (sunC C).2) := by unfold lifeDo; rw [if_neg (by omega), if_neg (by omega), if_neg (by omega), if_pos k]
    rw [el] at h
    have l6 := lb 6 (by omega)
    rw [ek]
    refine ⟨fun c => absurd c (by decide +kernel), fun _ => ⟨fun c => absurd c (by decide +kernel), fun _ => ⟨fun c => absurd c (by decide +kernel), fun _ => ⟨fun c => absurd c (by decide +kernel), fun _ => ⟨fun c => absurd c (by decide +kernel), fun _ => ⟨fun _ => c_sundays (by omega) hB hW hR (fun A2 hR2 hf => ?_), fun c => absurd rfl c⟩⟩⟩⟩⟩⟩
    rw [toI_int, b2i_z, zA_c M Z A2 (show 12 ≠ 1 by decide), zA_uo M Z A2 (show 12 ≠ 1 by decide), show (iN (Z 12 3 + 1)).toInt = wr (Z 12 3 + 1) from rfl]
    have h15 := sun_15 (C := C) (j := 15) (by decide)
    generalize sunC C = q at h hR2 h15 ⊢
    obtain ⟨b, D⟩ := q
    dsimp only at h15 hR2
    cases b with
    | true =>
      refine ⟨fun _ => ⟨iN_in (by omega) (by omega) (by omega), iN_in (by omega) (by omega) (by omega), o01, h _ A2 hR2 hf (fun c j hc _ => upd2_nn _ (by omega)) ⟨?_, ?_, ?_, ?_, ?_, ?_⟩⟩, fun c => by cases c⟩ <;> simp [upd2, z1, z2, z3, z4, z5, z6, h15]
    | false =>
      refine ⟨fun c => absurd rfl c, fun _ => ⟨z01, h _ A2 hR2 hf (fun c j hc _ => rfl) ⟨?_, ?_, ?_, ?_, ?_, ?_⟩⟩⟩ <;> simp [upd2, z1, z2, z3, z4, z5, z6, h15, l6]
  · have ek : kR (Y 1 i) = 12 := by rw [k]; rfl
    have el : lifeDo Y L C i = ((buryC C (Y 2 i)).1, L, (buryC C (Y 2 i)).2) := by unfold lifeDo; rw [if_neg (by omega), if_neg (by omega), if_neg (by omega), if_neg (by omega), if_pos k]
    rw [el] at h
    rw [ek, hr.g1 (by omega)]
    refine ⟨fun c => absurd c (by decide +kernel), fun _ => ⟨fun c => absurd c (by decide +kernel), fun _ => ⟨fun c => absurd c (by decide +kernel), fun _ => ⟨fun c => absurd c (by decide +kernel), fun _ => ⟨fun c => absurd c (by decide +kernel), fun _ => ⟨fun c => absurd c (by decide +kernel), fun _ => ⟨fun _ => r_isLiving (by omega) hB hV hR (by omega) (by omega) ?_, fun c => absurd rfl c⟩⟩⟩⟩⟩⟩⟩
    have h15 := bury_15 (C := C) (z := Y 2 i) (j := 15) (by decide) (by decide)
    rw [toI_int, b2i_z]
    refine ⟨fun c => ?_, fun c => ⟨z01, ?_⟩⟩
    · rw [Bool.not_eq_false] at c
      have t := livesB_spec c
      obtain ⟨s, hs⟩ : ∃ s : Nat, Y 2 i = s := ⟨(Y 2 i).toNat, (by omega)⟩
      rw [hs] at c h h15 ⊢
      refine c_dies (by omega) hB hW hR c (fun A2 hR2 hf => ⟨o01, ?_⟩)
      have e : (buryC C s).1 = true := by unfold buryC; rw [if_pos c]
      rw [e] at h
      exact h _ A2 hR2 hf (ZD.rf _) ⟨z1, z2, z3, z4, z5, by rw [h15]; exact z6⟩
    · have e : buryC C (Y 2 i) = (false, C) := by unfold buryC; rw [if_neg (by rw [c]; decide)]
      rw [e] at h
      exact h _ A hR (FrA.rf _ _) (ZD.rf _) ⟨z1, z2, z3, z4, z5, z6⟩
  · have ek : kR (Y 1 i) = 13 := by rw [k]; rfl
    have el : lifeDo Y L C i = (decide (0 < (netC C (Y 2 i) (Y 3 i)).1), L, (netC C (Y 2 i) (Y 3 i)).2) := by unfold lifeDo; rw [if_neg (by omega), if_neg (by omega), if_neg (by omega), if_neg (by omega), if_neg (by omega), if_pos k]
    rw [el] at h
    rw [ek, hr.g1 (by omega), hr.g2 (by omega)]
    refine ⟨fun c => absurd c (by decide +kernel), fun _ => ⟨fun c => absurd c (by decide +kernel), fun _ => ⟨fun c => absurd c (by decide +kernel), fun _ => ⟨fun c => absurd c (by decide +kernel), fun _ => ⟨fun c => absurd c (by decide +kernel), fun _ => ⟨fun c => absurd c (by decide +kernel), fun _ => ⟨fun c => absurd c (by decide +kernel), fun _ => ⟨fun _ => r_areTwo (by omega) hB hV hR (by omega) (by omega) (by omega) (by omega) ?_, fun c => absurd rfl c⟩⟩⟩⟩⟩⟩⟩⟩
    have h15 : (netC C (Y 2 i) (Y 3 i)).2 0 15 = C 0 15 := by rw [netC_c (by decide)]
    have nr := netC_rng hV (a := Y 2 i) (b := Y 3 i)
    rw [toI_int, b2i_z]
    refine ⟨fun c => ⟨z01, ?_⟩, fun c => ?_⟩
    · have e : netC C (Y 2 i) (Y 3 i) = (0, C) := by unfold netC; rw [if_neg (fun q => by rw [c] at q; exact absurd q.1 (by decide))]
      rw [e] at h
      exact h _ A hR (FrA.rf _ _) (ZD.rf _) ⟨z1, z2, z3, z4, z5, z6⟩
    rw [Bool.not_eq_false] at c
    have t := twoB_spec c
    obtain ⟨s, hs⟩ : ∃ s : Nat, Y 2 i = s := ⟨(Y 2 i).toNat, (by omega)⟩
    obtain ⟨u, hu⟩ : ∃ s : Nat, Y 3 i = s := ⟨(Y 3 i).toNat, (by omega)⟩
    rw [hs, hu] at c h h15 nr ⊢
    refine c_chordOf (by omega) hB hW hR (by omega) (by omega) (by omega) (fun A2 hR2 hf => ?_)
    have h := h _ A2 hR2 hf (ZD.rf _) ⟨z1, z2, z3, z4, z5, by rw [h15]; exact z6⟩
    rw [toI_int, iN_le0 (by omega) (by omega)]
    refine ⟨fun c2 => ⟨z01, ?_⟩, fun c2 => ⟨o01, ?_⟩⟩
    · rw [decide_eq_false (by omega)] at h; exact h
    · rw [decide_eq_true (by omega)] at h; exact h
  · have ek : kR (Y 1 i) = 14 := by rw [k]; rfl
    have el : lifeDo Y L C i = anyC L C := by unfold lifeDo; rw [if_neg (by omega), if_neg (by omega), if_neg (by omega), if_neg (by omega), if_neg (by omega), if_neg (by omega), if_neg (by omega)]
    rw [el] at h
    rw [ek]
    have l8 := hL.2.2.1
    have l4 := lb 4 (by omega)
    unfold anyC at h
    refine ⟨fun c => absurd c (by decide +kernel), fun _ => ⟨fun c => absurd c (by decide +kernel), fun _ => ⟨fun c => absurd c (by decide +kernel), fun _ => ⟨fun c => absurd c (by decide +kernel), fun _ => ⟨fun c => absurd c (by decide +kernel), fun _ => ⟨fun c => absurd c (by decide +kernel), fun _ => ⟨fun c => absurd c (by decide +kernel), fun _ => ⟨fun c => absurd c (by decide +kernel), fun _ => ⟨fun _ => r_lendsAny (by omega) hB hW hR (by rw [z4]; exact l8.1) (by rw [z4]; exact l8.2) (fun c => ⟨z01, ?_⟩) (fun c q hq A2 hR2 hf => ⟨bb01 _, ?_⟩), fun c => absurd rfl c⟩⟩⟩⟩⟩⟩⟩⟩⟩
    · rw [if_neg c] at h
      exact h _ A hR (FrA.rf _ _) (ZD.rf _) ⟨z1, z2, z3, z4, z5, z6⟩
    · rw [if_pos c] at h
      rw [z4] at hq ⊢
      have h15 : q.2 0 15 = C 0 15 := by rw [hq]; exact lendC_08
      rw [← hq] at h
      clear hq
      obtain ⟨b, D⟩ := q
      dsimp only at h15 hR2
      cases b with
      | true =>
        refine h _ A2 hR2 hf (fun c j hc hz => ?_) ⟨?_, ?_, ?_, ?_, ?_, ?_⟩
        · rw [if_pos rfl, upd2_nn _ (by omega), upd2_nn _ (by omega)]
        all_goals simp [upd2, z1, z2, z3, z4, z5, z6, h15]
      | false =>
        refine h _ A2 hR2 hf (fun c j hc hz => ?_) ⟨?_, ?_, ?_, ?_, ?_, ?_⟩
        · rw [if_neg (by simp), upd2_nn _ (by omega)]
        all_goals simp [upd2, z1, z2, z3, z4, z5, z6, h15, l4]
