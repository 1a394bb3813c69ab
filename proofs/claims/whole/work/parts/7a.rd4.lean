theorem n10 : ¬ iN 1 = 0 := by decide +kernel
theorem O34 {ry : Nat} (h : 18 ≤ ry) : O3 3 4 ry := ⟨(by omega), (by omega), (by omega), (by omega), (by omega), (by omega)⟩
theorem c_readTestWord {l : Launch} {E : EnvT} {d : Nat} {K : AV → Mem → Prop} {M : Mem} {ry sp : Nat} {D T Y : Ch} {L : Nat} (hd : 7 ≤ d) (hq : 18 ≤ ry) (hT : TI T L) (L9 : L ≤ 900) (hX : XB M) (hs : sp < 60) (h : K (.int (iN (b2i (yW (M 0 2) L sp T Y).1)), 0) (m3 M 3 4 ry D (yW (M 0 2) L sp T Y).2.1 (yW (M 0 2) L sp T Y).2.2)) : CT l E d m_YReader_readTestWord [(.ref 3, 6), (.ref ry, 23), (.int (iN sp), 0)] (m3 M 3 4 ry D T Y) K := by
  refine CT.of pn_YReader (Nat.le_of_ble_eq_true rfl) ?_
  have o := O34 hq
  have hA := adv_TI L9 hX hT
  have a8 := hA.2.2.2.2.2.2.2.2.1
  unfold yW at h
  refine b_YReader_readTestWord_0 (by omega) (c_advB (by omega) o hT L9 hX ⟨iN_in (by omega) (by omega) (by omega), ?_⟩)
  generalize advT (M 0 2) L T = T1 at h hA a8
  rw [m3_b M o, m3_uc M, iN_clN (by omega), iN_small (by omega) (by omega)]
  rw [iN_eq (by omega) (by omega) (by omega) (by omega), iN_eq (by omega) (by omega) (by omega) (by omega), iN_eq (by omega) (by omega) (by omega) (by omega)]
  refine ⟨fun c => ⟨fun _ => ⟨o01, ?_⟩, fun e => absurd e n10⟩, fun c1 => ⟨fun c => ⟨fun _ => ⟨o01, ?_⟩, fun e => absurd e n10⟩, fun c2 => ⟨fun c3 => ⟨fun e => absurd z00 e, fun _ => c_rfB (by omega) o hA (by omega) (by omega) ⟨fun _ => ⟨z01, ?_⟩, fun e => absurd z00 e⟩⟩, fun c => ⟨fun _ => ⟨o01, ?_⟩, fun e => absurd e n10⟩⟩⟩⟩
  · rw [if_pos (by omega)] at h; exact h
  · rw [if_pos (by omega)] at h; exact h
  · rw [if_neg (by omega)] at h; exact h
  · rw [if_pos (by omega)] at h; exact h
theorem stB_len : ∀ k : Nat, k < 9 → STRN.getD k 0 = (STRB.getD k []).length := by decide +kernel
theorem str_112 : ∀ k : Nat, k < 9 → STRN.getD k 0 ≤ 112 := by decide +kernel
theorem getD_drop {l : List Int32} {j : Nat} (h : j < l.length) : l.drop j = l.getD j 0 :: l.drop (j + 1) := by
  rw [List.drop_eq_getElem_cons h, List.getD_eq_getElem?_getD, List.getElem?_eq_getElem h]
  rfl
theorem tlK_9 (k : Int) : tlK k < 9 := by
  unfold tlK
  split; omega
  split; omega
  split; omega
  split; omega
  split; omega
  split <;> omega
theorem lstK_rng (k : Int) : 0 ≤ lstK k ∧ lstK k ≤ 9999 := by unfold lstK; split <;> omega
theorem mstK_rng (k : Int) : 0 ≤ mstK k ∧ mstK k ≤ 9999 := by unfold mstK; split; omega; split <;> omega
theorem c_readTail {l : Launch} {E : EnvT} {d : Nat} {K : AV → Mem → Prop} {M : Mem} {ry rc sp : Nat} {D T Y : Ch} {L : Nat} (hd : 8 ≤ d) (hq : 18 ≤ ry) (hr : rc = 16 ∨ rc = 17) (hT : TI T L) (L9 : L ≤ 900) (hX : XB M) (hV : VB (M rc)) (hY : YV Y) (hs : sp < 60) (h : K (.int (iN (b2i (yTl (M 0 2) L (M rc) sp (STRB.getD (tlK (Y 1 sp)) []) T Y).1)), 0) (m3 M 3 4 ry D (yTl (M 0 2) L (M rc) sp (STRB.getD (tlK (Y 1 sp)) []) T Y).2.1 (yTl (M 0 2) L (M rc) sp (STRB.getD (tlK (Y 1 sp)) []) T Y).2.2)) : CT l E d m_YReader_readTail [(.ref 3, 6), (.ref rc, 11), (.ref ry, 23), (.int (iN sp), 0)] (m3 M 3 4 ry D T Y) K := by
  refine CT.of pn_YReader (Nat.le_of_ble_eq_true rfl) ?_
  have o := O34 hq
  have em : ∀ T' Y' : Ch, m3 M 3 4 ry D T' Y' rc = M rc := fun T' Y' => m3_o M D T' Y' (by omega) (by omega) (by omega)
  have k9 := tlK_9 (Y 1 sp)
  have e1 := stB_len (tlK (Y 1 sp)) k9
  have e2 := str_112 (tlK (Y 1 sp)) k9
  have nok : ∀ (j : Nat) (T' Y' : Ch), j ≤ 200 → K (.int (iN 0), 0) (m3 M 3 4 ry D T' Y') → G l E d m_YReader_readTail 17 [(0, (.ref 3, 6)), (1, (.ref rc, 11)), (2, (.ref ry, 23)), (3, (.int (iN sp), 0)), (4, (.ref (tlK (Y 1 sp)), 999)), (5, (.int (iN 0), 0)), (6, (.int (iN j), 0))] [] (m3 M 3 4 ry D T' Y') K := by
    intro j T' Y' hj h
    refine b_YReader_readTail_17 (by omega) (c_strLen (by omega) k9 ?_)
    exact ⟨fun _ => ⟨z01, h⟩, fun _ => ⟨fun _ => ⟨z01, h⟩, fun e => absurd z00 e⟩⟩
  have key : ∀ (m j : Nat) (T' Y' : Ch), j + m = STRN.getD (tlK (Y 1 sp)) 0 → TI T' L → YV Y' → K (.int (iN (b2i (yTl (M 0 2) L (M rc) sp ((STRB.getD (tlK (Y 1 sp)) []).drop j) T' Y').1)), 0) (m3 M 3 4 ry D (yTl (M 0 2) L (M rc) sp ((STRB.getD (tlK (Y 1 sp)) []).drop j) T' Y').2.1 (yTl (M 0 2) L (M rc) sp ((STRB.getD (tlK (Y 1 sp)) []).drop j) T' Y').2.2) → G l E d m_YReader_readTail 17 [(0, (.ref 3, 6)), (1, (.ref rc, 11)), (2, (.ref ry, 23)), (3, (.int (iN sp), 0)), (4, (.ref (tlK (Y 1 sp)), 999)), (5, (.int (iN 1), 0)), (6, (.int (iN j), 0))] [] (m3 M 3 4 ry D T' Y') K := by
    intro m
    induction m with
    | zero =>
      intro j T' Y' hj hT' hY' h
      rw [List.drop_eq_nil_of_le (by omega)] at h
      refine b_YReader_readTail_17 (by omega) (c_strLen (by omega) k9 ?_)
      rw [toI_int]
      exact ⟨fun _ => ⟨o01, h⟩, fun c => absurd ((iN_le (by omega) (by omega) (by omega) (by omega)).mpr (by omega)) c⟩
    | succ m ih =>
      intro j T' Y' hj hT' hY' h
      rw [getD_drop (by omega)] at h
      refine b_YReader_readTail_17 (by omega) (c_strLen (by omega) k9 ?_)
      rw [toI_int]
      refine ⟨fun c => absurd ((iN_le (by omega) (by omega) (by omega) (by omega)).mp c) (by omega), fun _ => ⟨fun e => absurd e n10, fun _ => c_charAt (by omega) k9 (by omega) ?_⟩⟩
      rw [toI_int]
      generalize (STRB.getD (tlK (Y 1 sp)) []).getD j 0 = c at h
      have pi := yP_inv L9 hX hV (sp := sp) (c := c) hT' hY'
      unfold yTl at h
      have hA := adv_TI L9 hX hT'
      have y1 := (hY' sp hs).1
      rw [iN_add]
      have go : ∀ (q : PS), yP (M 0 2) L (M rc) sp c T' Y' = q → (q.1 = true → G l E d m_YReader_readTail 17 [(0, (.ref 3, 6)), (1, (.ref rc, 11)), (2, (.ref ry, 23)), (3, (.int (iN sp), 0)), (4, (.ref (tlK (Y 1 sp)), 999)), (5, (.int (iN 1), 0)), (6, (.int (iN ((j : Int) + 1)), 0))] [] (m3 M 3 4 ry D q.2.1 q.2.2) K) ∧ (q.1 = false → G l E d m_YReader_readTail 17 [(0, (.ref 3, 6)), (1, (.ref rc, 11)), (2, (.ref ry, 23)), (3, (.int (iN sp), 0)), (4, (.ref (tlK (Y 1 sp)), 999)), (5, (.int (iN 0), 0)), (6, (.int (iN ((j : Int) + 1)), 0))] [] (m3 M 3 4 ry D q.2.1 q.2.2) K) := by
        intro q e
        rw [e] at h pi
        refine ⟨fun b => ?_, fun b => nok (j + 1) _ _ (by omega) ?_⟩
        · rw [if_pos b] at h
          exact ih (j + 1) _ _ (by omega) pi.1 pi.2.1 h
        · rw [if_neg (by simp [b]), b] at h; exact h
      have gob : ∀ (q : PS), yP (M 0 2) L (M rc) sp c T' Y' = q → G l E d m_YReader_readTail 17 [(0, (.ref 3, 6)), (1, (.ref rc, 11)), (2, (.ref ry, 23)), (3, (.int (iN sp), 0)), (4, (.ref (tlK (Y 1 sp)), 999)), (5, (.int (iN (b2i q.1)), 0)), (6, (.int (iN ((j : Int) + 1)), 0))] [] (m3 M 3 4 ry D q.2.1 q.2.2) K := by
        intro q e
        have g := go q e
        cases hb : q.1 with
        | true => exact g.1 hb
        | false => exact g.2 hb
      unfold yP at go gob
      refine ⟨fun c1 => c_sgB (by omega) o hT' L9 hX (by omega) (by rw [em]; exact hV) (by omega) (by omega) ⟨iN_in (by omega) (by omega) (by omega), iN_in (by omega) (by omega) (by omega), ?_⟩, fun c1 => ⟨fun c2 => c_sgB (by omega) o hT' L9 hX (by omega) (by rw [em]; exact hV) (by omega) (by omega) ⟨iN_in (by omega) (by omega) (by omega), iN_in (by omega) (by omega) (by omega), ?_⟩, fun c2 => ⟨fun c3 => c_tcB (by omega) o hT' L9 hX ⟨iN_in (by omega) (by omega) (by omega), ?_⟩, fun c3 => ⟨fun c4 => c_tkB (by omega) o hT' L9 hX (by omega) (by omega) ?_, fun c4 => ⟨iN_in (by omega) (by omega) (by omega), ?_⟩⟩⟩⟩⟩
      · rw [if_pos c1] at go
        have sr := sg_rng (T := advT (M 0 2) L T') hV (-1)
        have g := go _ rfl
        rw [em, m3_uc M, m3_c M, iN_clN (by omega), toI_int, iN_small (by omega) (by omega), upd2_same, iN_eq (by omega) (by omega) (by omega) (by omega)]
        exact ⟨fun e => g.2 (decide_eq_false (fun x => x e)), fun e => g.1 (decide_eq_true e)⟩
      · rw [if_neg c1, if_pos c2] at go
        have sr := sg_rng (T := advT (M 0 2) L T') hV (-1)
        have g := go _ rfl
        rw [em, m3_uc M, m3_c M, iN_clN (by omega), toI_int, iN_small (by omega) (by omega), upd2_same, iN_eq (by omega) (by omega) (by omega) (by omega)]
        exact ⟨fun e => g.2 (decide_eq_false (fun x => x e)), fun e => g.1 (decide_eq_true e)⟩
      · rw [if_neg c1, if_neg c2, if_pos c3] at gob
        have a6 := (cm_TI hA).2.2.2.2.2.2.1
        rw [m3_b M o, m3_uc M, iN_clN (by omega), toI_int, iN_small (by omega) (by omega)]
        exact gob _ rfl
      · rw [if_neg c1, if_neg c2, if_neg c3, if_pos c4] at gob
        rw [toI_int]
        exact gob _ rfl
      · rw [if_neg c1, if_neg c2, if_neg c3, if_neg c4] at gob
        have l1 := lstK_rng (Y' 1 sp)
        have l2 := mstK_rng (Y' 1 sp)
        have a5 := (nu_TI hA (lstK (Y' 1 sp)) (mstK (Y' 1 sp))).2.2.2.2.2.1
        rw [m3_c M, iN_clN (by omega)]
        refine c_leastOf (by omega) (by omega) (by omega) ⟨iN_in (by omega) (by omega) (by omega), ?_⟩
        rw [m3_c M]
        refine c_mostOf (by omega) (by omega) (by omega) ?_
        rw [toI_int, toI_int]
        refine c_tnB (by omega) o hT' L9 hX l1.1 l1.2 l2.1 l2.2 ⟨iN_in (by omega) (by omega) (by omega), ?_⟩
        rw [m3_b M o, m3_uc M, toI_int, iN_small (by omega) (by omega)]
        exact gob _ rfl
  refine b_YReader_readTail_0 (by omega) ⟨iN_in (by omega) (by omega) (by omega), ?_⟩
  rw [m3_c M, iN_clN (by omega)]
  have y1 := (hY sp hs).1
  refine c_tailOf (by omega) (by omega) (by omega) ?_
  rw [toR_ref]
  exact key (STRN.getD (tlK (Y 1 sp)) 0) 0 T Y (by omega) hT hY h
theorem c_readEnd {l : Launch} {E : EnvT} {d : Nat} {K : AV → Mem → Prop} {M : Mem} {ry : Nat} {D T Y : Ch} {L : Nat} (hd : 8 ≤ d) (hq : 18 ≤ ry) (hT : TI T L) (L9 : L ≤ 900) (hX : XB M) (hD : DI D Y) (h : K (.int (iN (b2i (yE0 (M 0 2) L D T Y).1)), 0) (m3 M 3 4 ry (yE0 (M 0 2) L D T Y).2.1 (yE0 (M 0 2) L D T Y).2.2.1 (yE0 (M 0 2) L D T Y).2.2.2)) : CT l E d m_YReader_readEnd [(.ref 3, 6), (.ref ry, 23)] (m3 M 3 4 ry D T Y) K := by
  refine CT.of pn_YReader (Nat.le_of_ble_eq_true rfl) ?_
  have o := O34 hq
  obtain ⟨d1, d2, d3, d4, d5, d6⟩ := hD
  unfold yE0 at h
  refine b_YReader_readEnd_0 (by omega) ?_
  rw [m3_a M o, iN_eq0 (by omega) (by omega), iN_sub, iN_small (by omega) (by omega), m3_ua M o, m3_a M o, upd2_same, upd2_c _ _ (show 1 ≠ 0 by decide)]
  refine ⟨fun c => ⟨iN_in (by omega) (by omega) (by omega), ?_⟩, fun c => c_rfB (by omega) o hT (by omega) (by omega) ⟨z01, ?_⟩⟩
  · rw [if_neg c] at h
    rw [iN_cl (by omega) (by omega)]
    have b := d2 (D 0 2 - 1).toNat (by omega)
    obtain ⟨p, hp⟩ : ∃ p : Nat, D 1 (D 0 2 - 1).toNat = p := ⟨(D 1 (D 0 2 - 1).toNat).toNat, (by omega)⟩
    rw [hp, show ((p : Int)).toNat = p from rfl] at h
    rw [hp]
    have e := setR_self (m3 M 3 4 ry (upd2 D 0 2 (D 0 2 - 1)) T Y) ry
    rw [m3_c M] at e
    rw [← e]
    refine c_addEnd (by omega) (by omega) (by omega) (by omega) ?_
    rw [m3_sc M]
    exact c_tsB (by omega) o hT L9 hX (by omega) (by omega) ⟨bb01 _, h⟩
  · rw [if_pos c] at h; exact h
theorem yD1_c (D : Ch) (k : Int) (sp : Int) : yD1 D k sp 0 2 = if opB k = true then D 0 2 + 1 else D 0 2 := by
  unfold yD1
  split
  · rw [upd2_same]
  · rfl
theorem c_readStep {l : Launch} {E : EnvT} {d : Nat} {K : AV → Mem → Prop} {M : Mem} {ry rc : Nat} {D T Y : Ch} {L : Nat} (hd : 9 ≤ d) (hq : 18 ≤ ry) (hr : rc = 16 ∨ rc = 17) (hT : TI T L) (L9 : L ≤ 900) (hX : XB M) (hV : VB (M rc)) (hY : YV Y) (hD : DI D Y) (h : K (.int (iN (b2i (yS0 (M 0 2) L (M rc) D T Y).1)), 0) (m3 M 3 4 ry (yS0 (M 0 2) L (M rc) D T Y).2.1 (yS0 (M 0 2) L (M rc) D T Y).2.2.1 (yS0 (M 0 2) L (M rc) D T Y).2.2.2)) : CT l E d m_YReader_readStep [(.ref 3, 6), (.ref rc, 11), (.ref ry, 23)] (m3 M 3 4 ry D T Y) K := by
  refine CT.of pn_YReader (Nat.le_of_ble_eq_true rfl) ?_
  have o := O34 hq
  obtain ⟨d1, d2, d3, d4, d5, d6⟩ := hD
  have a8 := hT.2.2.2.2.2.2.2.2.1
  have fin : ∀ (D' : Ch) (q : PS), TI q.2.1 L → K (.int (iN (b2i (yS4 (M 0 2) L D' q).1)), 0) (m3 M 3 4 ry (yS4 (M 0 2) L D' q).2.1 (yS4 (M 0 2) L D' q).2.2.1 (yS4 (M 0 2) L D' q).2.2.2) → ((iN (b2i q.1) = 0 → ((iN 0 = 0 ∨ iN 0 = 1) ∧ K (.int (iN 0), 0) (m3 M 3 4 ry D' q.2.1 q.2.2))) ∧ (¬ iN (b2i q.1) = 0 → CT l E (d - 1) m_Tokens_takeSign [(.ref 4, 4), (.int (iN 59), 0)] (m3 M 3 4 ry D' q.2.1 q.2.2) (fun v3 M3 => ((toI v3 = 0 → ((iN 0 = 0 ∨ iN 0 = 1) ∧ K (.int (iN 0), 0) M3)) ∧ (¬ toI v3 = 0 → ((iN 1 = 0 ∨ iN 1 = 1) ∧ K (.int (iN 1), 0) M3)))))) := by
    intro D' q tq h
    unfold yS4 at h
    rw [b2i_z]
    refine ⟨fun c => ⟨z01, ?_⟩, fun c => c_tsB (by omega) o tq L9 hX (by omega) (by omega) ?_⟩
    · rw [if_neg (by simp [c])] at h; exact h
    · rw [Bool.not_eq_false] at c
      rw [if_pos c] at h
      rw [toI_int, b2i_z]
      refine ⟨fun c2 => ⟨z01, ?_⟩, fun c2 => ⟨o01, ?_⟩⟩
      · rw [c2] at h; exact h
      · rw [Bool.not_eq_false] at c2; rw [c2] at h; exact h
  have s85 : Y 0 7 < 30 → ¬ (opB (T 0 8) = true ∧ 3 ≤ D 0 2) → begB (T 0 8) = true → K (.int (iN (b2i (yS1 (M 0 2) L (M rc) D T Y).1)), 0) (m3 M 3 4 ry (yS1 (M 0 2) L (M rc) D T Y).2.1 (yS1 (M 0 2) L (M rc) D T Y).2.2.1 (yS1 (M 0 2) L (M rc) D T Y).2.2.2) → G l E d m_YReader_readStep 85 [(0, (.ref 3, 6)), (1, (.ref rc, 11)), (2, (.ref ry, 23)), (3, (.int (iN (T 0 8)), 0)), (4, (.int (iN (b2i (opB (T 0 8)))), 0))] [] (m3 M 3 4 ry D T Y) K := by
    intro y30 op bg h
    unfold yS1 at h
    refine b_YReader_readStep_85 (by omega) ?_
    have e := setR_self (m3 M 3 4 ry D T Y) ry
    rw [m3_c M] at e
    rw [← e]
    refine c_addStep (by omega) (by omega) (by omega) (by omega) (by omega) (by omega) (by omega) ?_
    rw [m3_sc M, toI_int, b2i_z]
    obtain ⟨sp, hsp⟩ : ∃ sp : Nat, Y 0 6 = sp := ⟨(Y 0 6).toNat, (by omega)⟩
    rw [hsp] at h
    rw [show ((sp : Int)).toNat = sp from rfl] at h
    rw [hsp]
    have yv1 : YV (addStepY Y (T 0 8)) := by
      unfold addStepY
      exact (((((hY.u ⟨fun _ => (by omega), (by omega), (by omega), (by omega), (by omega), (by omega)⟩).u ⟨(by omega), fun _ => (by omega), (by omega), (by omega), (by omega), (by omega)⟩).u ⟨(by omega), (by omega), fun _ => (by omega), (by omega), (by omega), (by omega)⟩).u ⟨(by omega), (by omega), (by omega), fun _ => (by omega), (by omega), (by omega)⟩).u ⟨(by omega), (by omega), (by omega), (by omega), (by omega), (by omega)⟩).u ⟨(by omega), (by omega), (by omega), (by omega), (by omega), (by omega)⟩
    have tl : ∀ (D' T' Y' : Ch), TI T' L → YV Y' → K (.int (iN (b2i (yS4 (M 0 2) L D' (yTl (M 0 2) L (M rc) sp (STRB.getD (tlK (Y' 1 sp)) []) T' Y')).1)), 0) (m3 M 3 4 ry (yS4 (M 0 2) L D' (yTl (M 0 2) L (M rc) sp (STRB.getD (tlK (Y' 1 sp)) []) T' Y')).2.1 (yS4 (M 0 2) L D' (yTl (M 0 2) L (M rc) sp (STRB.getD (tlK (Y' 1 sp)) []) T' Y')).2.2.1 (yS4 (M 0 2) L D' (yTl (M 0 2) L (M rc) sp (STRB.getD (tlK (Y' 1 sp)) []) T' Y')).2.2.2) → CT l E (d - 1) m_YReader_readTail [(.ref 3, 6), (.ref rc, 11), (.ref ry, 23), (.int (iN (sp : Int)), 0)] (m3 M 3 4 ry D' T' Y') (fun v2 M2 => ((toI v2 = 0 → ((iN 0 = 0 ∨ iN 0 = 1) ∧ K (.int (iN 0), 0) M2)) ∧ (¬ toI v2 = 0 → CT l E (d - 1) m_Tokens_takeSign [(.ref 4, 4), (.int (iN 59), 0)] M2 (fun v3 M3 => ((toI v3 = 0 → ((iN 0 = 0 ∨ iN 0 = 1) ∧ K (.int (iN 0), 0) M3)) ∧ (¬ toI v3 = 0 → ((iN 1 = 0 ∨ iN 1 = 1) ∧ K (.int (iN 1), 0) M3))))))) := by
      intro D' T' Y' hT' hY' h
      refine c_readTail (by omega) hq hr hT' L9 hX hV hY' (by omega) ?_
      have ti := yTl_inv L9 hX hV (sp := sp) (STRB.getD (tlK (Y' 1 sp)) []) T' Y' hT' hY'
      rw [toI_int]
      exact fin D' _ ti.1 h
    have mid : ∀ D' : Ch, yD1 D (T 0 8) (sp : Int) = D' → ((¬ iN (T 0 8) = iN 16 → CT l E (d - 1) m_YReader_readTail [(.ref 3, 6), (.ref rc, 11), (.ref ry, 23), (.int (iN (sp : Int)), 0)] (m3 M 3 4 ry D' T (addStepY Y (T 0 8))) (fun v2 M2 => ((toI v2 = 0 → ((iN 0 = 0 ∨ iN 0 = 1) ∧ K (.int (iN 0), 0) M2)) ∧ (¬ toI v2 = 0 → CT l E (d - 1) m_Tokens_takeSign [(.ref 4, 4), (.int (iN 59), 0)] M2 (fun v3 M3 => ((toI v3 = 0 → ((iN 0 = 0 ∨ iN 0 = 1) ∧ K (.int (iN 0), 0) M3)) ∧ (¬ toI v3 = 0 → ((iN 1 = 0 ∨ iN 1 = 1) ∧ K (.int (iN 1), 0) M3)))))))) ∧ (iN (T 0 8) = iN 16 → CT l E (d - 1) m_YReader_readTestWord [(.ref 3, 6), (.ref ry, 23), (.int (iN (sp : Int)), 0)] (m3 M 3 4 ry D' T (addStepY Y (T 0 8))) (fun v4 M4 => ((¬ toI v4 = 0 → CT l E (d - 1) m_YReader_readTail [(.ref 3, 6), (.ref rc, 11), (.ref ry, 23), (.int (iN (sp : Int)), 0)] M4 (fun v2 M2 => ((toI v2 = 0 → ((iN 0 = 0 ∨ iN 0 = 1) ∧ K (.int (iN 0), 0) M2)) ∧ (¬ toI v2 = 0 → CT l E (d - 1) m_Tokens_takeSign [(.ref 4, 4), (.int (iN 59), 0)] M2 (fun v3 M3 => ((toI v3 = 0 → ((iN 0 = 0 ∨ iN 0 = 1) ∧ K (.int (iN 0), 0) M3)) ∧ (¬ toI v3 = 0 → ((iN 1 = 0 ∨ iN 1 = 1) ∧ K (.int (iN 1), 0) M3)))))))) ∧ (toI v4 = 0 → ((iN 0 = 0 ∨ iN 0 = 1) ∧ K (.int (iN 0), 0) M4)))))) := by
      intro D' e
      rw [e] at h
      rw [iN_eq (by omega) (by omega) (by omega) (by omega)]
      unfold yS3 at h
      refine ⟨fun c => tl _ _ _ hT yv1 ?_, fun c => c_readTestWord (by omega) hq hT L9 hX (by omega) ?_⟩
      · rw [if_neg c] at h
        simp only [if_true] at h
        exact h
      · rw [if_pos c] at h
        have hA := adv_TI L9 hX hT
        have tw : TI (yW (M 0 2) L sp T (addStepY Y (T 0 8))).2.1 L ∧ YV (yW (M 0 2) L sp T (addStepY Y (T 0 8))).2.2 := by
          have a8' := hA.2.2.2.2.2.2.2.2.1
          unfold yW
          split
          · exact ⟨hA, yv1.u ⟨fun _ => (by omega), (by omega), (by omega), (by omega), (by omega), (by omega)⟩⟩
          · exact ⟨hA.rf (by omega) (by omega), yv1.u ⟨fun _ => (by omega), (by omega), (by omega), (by omega), (by omega), (by omega)⟩⟩
        generalize yW (M 0 2) L sp T (addStepY Y (T 0 8)) = q at h tw
        rw [toI_int, b2i_z]
        refine ⟨fun c2 => tl _ _ _ tw.1 tw.2 ?_, fun c2 => ⟨z01, ?_⟩⟩
        · rw [Bool.not_eq_false] at c2
          rw [if_pos c2] at h
          exact h
        · rw [if_neg (by simp [c2])] at h; exact h
    refine ⟨fun c => mid D ?_, fun c => ⟨?_, ?_⟩⟩
    · unfold yD1; rw [if_neg (by simp [c])]
    · rw [m3_a M o]
      rw [Bool.not_eq_false] at c
      have : ¬ 3 ≤ D 0 2 := fun q => op ⟨c, q⟩
      exact iN_in (by omega) (by omega) (by omega)
    · rw [Bool.not_eq_false] at c
      rw [m3_a M o, m3_ua M o, m3_ua M o, m3_a M o, iN_cl (by omega) (by omega), iN_small (by omega) (by omega), upd2_c _ _ (show 0 ≠ 1 by decide), iN_add, iN_small (by omega) (by omega)]
      refine mid _ ?_
      unfold yD1; rw [if_pos c]
  refine b_YReader_readStep_0 (by omega) ?_
  unfold yS0 at h
  rw [m3_b M o]
  refine c_beginsStep (by omega) a8.1 (by omega) ?_
  rw [toI_int, b2i_z, m3_a M o, m3_c M, iN_lt (by omega) (by omega) (by omega) (by omega), iN_lt (by omega) (by omega) (by omega) (by omega), iN_eq (by omega) (by omega) (by omega) (by omega), iN_eq (by omega) (by omega) (by omega) (by omega)]
  refine ⟨fun bg => ⟨fun y30 => ?_, fun y30 => c_rfB (by omega) o hT (by omega) (by omega) ⟨z01, ?_⟩⟩, fun bg => c_rfB (by omega) o hT (by omega) (by omega) ⟨z01, ?_⟩⟩
  · rw [Bool.not_eq_false] at bg
    rw [if_pos bg, if_pos y30] at h
    have tooD : opB (T 0 8) = true → ((D 0 2 < 3 → G l E d m_YReader_readStep 85 [(0, (.ref 3, 6)), (1, (.ref rc, 11)), (2, (.ref ry, 23)), (3, (.int (iN (T 0 8)), 0)), (4, (.int (iN 1), 0))] [] (m3 M 3 4 ry D T Y) K) ∧ (¬ D 0 2 < 3 → CT l E (d - 1) m_Tokens_refuse [(.ref 4, 4), (.int (iN 7), 0)] (m3 M 3 4 ry D T Y) (fun v2 M2 => ((toI v2 = 0 ∨ toI v2 = 1) ∧ K (.int (toI v2), 0) M2)))) := by
      intro ob
      refine ⟨fun c => ?_, fun c => c_rfB (by omega) o hT (by omega) (by omega) ⟨z01, ?_⟩⟩
      · have no : ¬ (opB (T 0 8) = true ∧ 3 ≤ D 0 2) := fun q => absurd q.2 (by omega)
        rw [if_neg no] at h
        have := s85 y30 no bg h
        rw [ob] at this
        exact this
      · rw [if_pos ⟨ob, (by omega)⟩] at h; exact h
    refine ⟨fun c => ⟨fun e => absurd e n10, fun _ => tooD (decide_eq_true (Or.inl c))⟩, fun c => ⟨fun c2 => ⟨fun _ => ?_, fun e => absurd z00 e⟩, fun c2 => ⟨fun e => absurd e n10, fun _ => tooD (decide_eq_true (Or.inr c2))⟩⟩⟩
    have ob : opB (T 0 8) = false := decide_eq_false (by omega)
    have no : ¬ (opB (T 0 8) = true ∧ 3 ≤ D 0 2) := fun q => by rw [ob] at q; exact absurd q.1 (by decide)
    rw [if_neg no] at h
    have := s85 y30 no bg h
    rw [ob] at this
    exact this
  · rw [Bool.not_eq_false] at bg
    rw [if_pos bg, if_neg y30] at h; exact h
  · rw [if_neg (by simp [bg])] at h; exact h
