def QI (q : QS) (L : Nat) : Prop := TI q.2.2.1 L ∧ YV q.2.2.2 ∧ DI q.2.1 q.2.2.2
theorem YV_addStep {Y : Ch} (hY : YV Y) {v : Int} (v1 : -1 ≤ v) (v2 : v ≤ 60) : YV (addStepY Y v) := by
  unfold addStepY
  exact (((((hY.u ⟨fun _ => (by omega), (by omega), (by omega), (by omega), (by omega), (by omega)⟩).u ⟨(by omega), fun _ => (by omega), (by omega), (by omega), (by omega), (by omega)⟩).u ⟨(by omega), (by omega), fun _ => (by omega), (by omega), (by omega), (by omega)⟩).u ⟨(by omega), (by omega), (by omega), fun _ => (by omega), (by omega), (by omega)⟩).u ⟨(by omega), (by omega), (by omega), (by omega), (by omega), (by omega)⟩).u ⟨(by omega), (by omega), (by omega), (by omega), (by omega), (by omega)⟩
theorem YV_addEnd {Y : Ch} (hY : YV Y) {b : Nat} (hb : b < 60) (q1 : 0 ≤ Y 0 6) (q2 : Y 0 6 < 60) : YV (addEndY Y b) := by
  unfold addEndY
  exact (((hY.u ⟨fun _ => (by omega), (by omega), (by omega), (by omega), (by omega), (by omega)⟩).u ⟨(by omega), (by omega), (by omega), (by omega), (by omega), fun _ => (by omega)⟩).u ⟨(by omega), (by omega), (by omega), (by omega), (by omega), fun _ => (by omega)⟩).u ⟨(by omega), (by omega), (by omega), (by omega), (by omega), (by omega)⟩
theorem addEnd_0 (Y : Ch) (b : Nat) : addEndY Y b 0 6 = Y 0 6 + 1 ∧ addEndY Y b 0 7 = Y 0 7 ∧ addEndY Y b 0 8 = Y 0 8 := by simp [addEndY, upd2]
theorem addStep_0 (Y : Ch) (v : Int) : addStepY Y v 0 6 = Y 0 6 + 1 ∧ addStepY Y v 0 7 = Y 0 7 + 1 ∧ addStepY Y v 0 8 = Y 0 8 := by simp [addStepY, upd2]
theorem yE0_QI {X : Nat → Int} {L : Nat} (L9 : L ≤ 900) (hX : XBn X) {D T Y : Ch} (hT : TI T L) (hY : YV Y) (hD : DI D Y) : QI (yE0 X L D T Y) L := by
  obtain ⟨d1, d2, d3, d4, d5, d6⟩ := id hD
  unfold yE0
  split
  · exact ⟨hT.rf (by omega) (by omega), hY, hD⟩
  · rename_i c
    have b := d2 (D 0 2 - 1).toNat (by omega)
    have a := addEnd_0 Y (D 1 (D 0 2 - 1).toNat).toNat
    refine ⟨ss_TI (adv_TI L9 hX hT) _, YV_addEnd hY (by omega) (by omega) (by omega), ?_⟩
    show DI (upd2 D 0 2 (D 0 2 - 1)) (addEndY Y (D 1 (D 0 2 - 1).toNat).toNat)
    unfold DI
    rw [a.1, a.2.1, a.2.2, upd2_same, upd2_c _ _ (show 1 ≠ 0 by decide)]
    exact ⟨(by omega), d2, (by omega), d4, (by omega), d6⟩
theorem yS4_QI {X : Nat → Int} {L : Nat} (L9 : L ≤ 900) (hX : XBn X) {D : Ch} {q : PS} (hT : TI q.2.1 L) (hY : YV q.2.2) (hD : DI D q.2.2) : QI (yS4 X L D q) L := by
  unfold yS4
  split
  · exact ⟨ss_TI (adv_TI L9 hX hT) _, hY, hD⟩
  · exact ⟨hT, hY, hD⟩
theorem DI.y {D Y Y' : Ch} (h : DI D Y) (e : ∀ k, Y' 0 k = Y 0 k) : DI D Y' := by
  unfold DI
  rw [e 6, e 7, e 8]
  exact h
theorem yS0_QI {X : Nat → Int} {L : Nat} (L9 : L ≤ 900) (hX : XBn X) {C D T Y : Ch} (hV : VB C) (hT : TI T L) (hY : YV Y) (hD : DI D Y) : QI (yS0 X L C D T Y) L := by
  obtain ⟨d1, d2, d3, d4, d5, d6⟩ := id hD
  have a8 := hT.2.2.2.2.2.2.2.2.1
  unfold yS0
  split
  · split
    · rename_i y30
      split
      · exact ⟨hT.rf (by omega) (by omega), hY, hD⟩
      · rename_i op
        have yv1 := YV_addStep hY (v := T 0 8) (by omega) (by omega)
        have a := addStep_0 Y (T 0 8)
        have dd : DI (yD1 D (T 0 8) (Y 0 6)) (addStepY Y (T 0 8)) := by
          unfold DI yD1
          rw [a.1, a.2.1, a.2.2]
          by_cases ob : opB (T 0 8) = true
          · have : ¬ 3 ≤ D 0 2 := fun q => op ⟨ob, q⟩
            rw [if_pos ob, upd2_same, upd2_c _ _ (show 1 ≠ 0 by decide)]
            refine ⟨(by omega), fun k hk => ?_, (by omega), (by omega), (by omega), d6⟩
            rw [upd2_at]
            split
            · exact ⟨(by omega), (by omega)⟩
            · exact d2 k hk
          · rw [if_neg ob]
            exact ⟨d1, d2, (by omega), (by omega), (by omega), d6⟩
        unfold yS1 yS3
        have tw : ∀ q : PS, (if T 0 8 = 16 then yW X L (Y 0 6).toNat T (addStepY Y (T 0 8)) else (true, T, addStepY Y (T 0 8))) = q → TI q.2.1 L ∧ YV q.2.2 ∧ ∀ k, q.2.2 0 k = addStepY Y (T 0 8) 0 k := by
          intro q e
          rw [← e]
          split
          · have hA := adv_TI L9 hX hT
            have a8' := hA.2.2.2.2.2.2.2.2.1
            unfold yW
            split
            · exact ⟨hA, yv1.u ⟨fun _ => (by omega), (by omega), (by omega), (by omega), (by omega), (by omega)⟩, fun k => by simp [upd2]⟩
            · exact ⟨hA.rf (by omega) (by omega), yv1.u ⟨fun _ => (by omega), (by omega), (by omega), (by omega), (by omega), (by omega)⟩, fun k => by simp [upd2]⟩
          · exact ⟨hT, yv1, fun _ => rfl⟩
        generalize hq : (if T 0 8 = 16 then yW X L (Y 0 6).toNat T (addStepY Y (T 0 8)) else (true, T, addStepY Y (T 0 8))) = q at tw
        have tw := tw q rfl
        have dq : DI (yD1 D (T 0 8) (Y 0 6)) q.2.2 := dd.y tw.2.2
        split
        · have ti := yTl_inv L9 hX hV (sp := (Y 0 6).toNat) (STRB.getD (tlK (q.2.2 1 (Y 0 6).toNat)) []) q.2.1 q.2.2 tw.1 tw.2.1
          exact yS4_QI L9 hX ti.1 ti.2.1 (dq.y ti.2.2.1)
        · exact ⟨tw.1, tw.2.1, dq⟩
    · exact ⟨hT.rf (by omega) (by omega), hY, hD⟩
  · exact ⟨hT.rf (by omega) (by omega), hY, hD⟩
theorem yPt_QI {X : Nat → Int} {L : Nat} (L9 : L ≤ 900) (hX : XBn X) {C D T Y : Ch} (hV : VB C) (hT : TI T L) (hY : YV Y) (hD : DI D Y) : QI (yPt X L C D T Y) L := by
  unfold yPt
  split
  · exact yE0_QI L9 hX hT hY hD
  · exact yS0_QI L9 hX hV hT hY hD
theorem c_yReadAll {l : Launch} {E : EnvT} {d : Nat} {K : AV → Mem → Prop} {M : Mem} {ry rc : Nat} {L : Nat} (hd : 10 ≤ d) (hq : 18 ≤ ry) (hr : rc = 16 ∨ rc = 17) (hT : TG (M 4)) (L9 : L ≤ 900) (hX : XB M) (hV : VB (M rc)) (hY : YV (M ry)) (hO : ∀ k, k < 3 → 0 ≤ M 3 1 k ∧ M 3 1 k < 60) (h : K (.int (iN (b2i (yAll (M 0 2) L (M rc) (M 3) (M 4) (M ry)).1)), 0) (m3 M 3 4 ry (yAll (M 0 2) L (M rc) (M 3) (M 4) (M ry)).2.1 (yAll (M 0 2) L (M rc) (M 3) (M 4) (M ry)).2.2.1 (yAll (M 0 2) L (M rc) (M 3) (M 4) (M ry)).2.2.2)) : CT l E d m_YReader_readAll [(.ref 3, 6), (.ref 0, 2), (.int (iN L), 0), (.ref rc, 11), (.ref ry, 23)] M K := by
  refine CT.of pn_YReader (Nat.le_of_ble_eq_true rfl) ?_
  have o := O34 hq
  have fin : ∀ D T Y : Ch, TI T L → YV Y → DI D Y → K (.int (iN (b2i (yFin (true, D, T, Y)).1)), 0) (m3 M 3 4 ry (yFin (true, D, T, Y)).2.1 (yFin (true, D, T, Y)).2.2.1 (yFin (true, D, T, Y)).2.2.2) → ((iN 1 = 0 ∨ iN 1 = 1) ∧ ((iN (upd3 (m3 M 3 4 ry D T Y) ry 0 8 (iN 1).toInt 3 0 2) = 0 → ((iN 1 = 0 ∨ iN 1 = 1) ∧ K (.int (iN 1), 0) (upd3 (m3 M 3 4 ry D T Y) ry 0 8 (iN 1).toInt))) ∧ (¬ iN (upd3 (m3 M 3 4 ry D T Y) ry 0 8 (iN 1).toInt 3 0 2) = 0 → CT l E (d - 1) m_Tokens_refuse [(.ref 4, 4), (.int (iN 2), 0)] (upd3 (m3 M 3 4 ry D T Y) ry 0 8 (iN 1).toInt) (fun v1 M1 => ((toI v1 = 0 → ((iN 0 = 0 ∨ iN 0 = 1) ∧ K (.int (iN 0), 0) M1)) ∧ (¬ toI v1 = 0 → ((iN 1 = 0 ∨ iN 1 = 1) ∧ K (.int (iN 1), 0) M1))))))) := by
    intro D T Y hT hY hD h
    have d1 := hD.1
    unfold yFin at h
    rw [if_pos rfl] at h
    rw [iN_1I, m3_uc M, m3_a M o, iN_eq0 (a := D 0 2) (by omega) (by omega)]
    refine ⟨o01, fun c => ⟨o01, ?_⟩, fun c => c_rfB (by omega) o hT (by omega) (by omega) ⟨fun _ => ⟨z01, ?_⟩, fun e => absurd z00 e⟩⟩
    · rw [if_pos c] at h; exact h
    · rw [if_neg c] at h; exact h
  have key : ∀ (m t : Nat) (D T Y : Ch), t + m = L + 1 → TI T L → YV Y → DI D Y → K (.int (iN (b2i (yFin (yAF (M 0 2) L (M rc) m D T Y)).1)), 0) (m3 M 3 4 ry (yFin (yAF (M 0 2) L (M rc) m D T Y)).2.1 (yFin (yAF (M 0 2) L (M rc) m D T Y)).2.2.1 (yFin (yAF (M 0 2) L (M rc) m D T Y)).2.2.2) → G l E d m_YReader_readAll 22 [(0, (.ref 3, 6)), (2, (.int (iN L), 0)), (3, (.ref rc, 11)), (4, (.ref ry, 23)), (5, (.int (iN t), 0))] [] (m3 M 3 4 ry D T Y) K := by
    intro m
    induction m with
    | zero =>
      intro t D T Y ht hT hY hD h
      exact b_YReader_readAll_22 (by omega) ⟨fun _ => fin D T Y hT hY hD h, fun c => absurd ((iN_lt (by omega) (by omega) (by omega) (by omega)).mpr (by omega)) c⟩
    | succ m ih =>
      intro t D T Y ht hT hY hD h
      have a3 := hT.2.2.2.1
      have a8 := hT.2.2.2.2.2.2.2.2.1
      unfold yAF at h
      refine b_YReader_readAll_22 (by omega) ⟨fun c => absurd ((iN_lt (by omega) (by omega) (by omega) (by omega)).mp c) (by omega), fun _ => ?_⟩
      rw [m3_b M o, iN_eq0 (by omega) (by omega)]
      refine ⟨fun c3 => fin D T Y hT hY hD ?_, fun c3 => ?_⟩
      · rw [if_pos c3] at h; exact h
      · rw [if_neg c3] at h
        have em : m3 M 3 4 ry D T Y rc = M rc := m3_o M D T Y (by omega) (by omega) (by omega)
        have qi := yPt_QI L9 hX (C := M rc) hV hT hY hD
        have nxt : ∀ q : QS, yPt (M 0 2) L (M rc) D T Y = q → ((¬ toI (.int (iN (b2i q.1)), 0) = 0 → CT l E (d - 1) m_Tokens_advance [(.ref 4, 4)] (m3 M 3 4 ry q.2.1 q.2.2.1 q.2.2.2) (fun v4 M4 => G l E d m_YReader_readAll 22 [(0, (.ref 3, 6)), (2, (.int (iN L), 0)), (3, (.ref rc, 11)), (4, (.ref ry, 23)), (5, (.int (iN (t : Int) + iN 1), 0))] [] M4 K)) ∧ (toI (.int (iN (b2i q.1)), 0) = 0 → ((iN 0 = 0 ∨ iN 0 = 1) ∧ K (.int (iN 0), 0) (m3 M 3 4 ry q.2.1 q.2.2.1 q.2.2.2)))) := by
          intro q e
          rw [e] at h qi
          rw [toI_int, b2i_z, iN_add]
          refine ⟨fun c => c_advB (by omega) o qi.1 L9 hX (ih (t + 1) _ _ _ (by omega) (adv_TI L9 hX qi.1) qi.2.1 qi.2.2 ?_), fun c => ⟨z01, ?_⟩⟩
          · rw [Bool.not_eq_false] at c
            rw [if_pos c] at h; exact h
          · rw [if_neg (by simp [c])] at h
            unfold yFin at h
            rw [if_neg (by simp [c]), c] at h
            exact h
        rw [iN_eq (by omega) (by omega) (by omega) (by omega)]
        refine ⟨fun c => c_readStep (L := L) (by omega) hq hr hT L9 hX hV hY hD (nxt _ ?_), fun c => c_readEnd (L := L) (by omega) hq hT L9 hX hD (nxt _ ?_)⟩
        · unfold yPt; rw [if_neg c]
        · unfold yPt; rw [if_pos c]
  have e := m3_id M o
  rw [← e]
  refine b_YReader_readAll_0 (by omega) ?_
  have e2 := setR_self (m3 M 3 4 ry (M 3) (M 4) (M ry)) ry
  rw [m3_c M] at e2
  rw [← e2]
  refine c_forget (by omega) ?_
  rw [m3_sc M, m3_ua M o, iN_0I]
  refine c_start (by omega) o hT L9 hX (key (L + 1) 0 _ _ _ (by omega) (adv_TI L9 hX (TI_start hT)) ?_ ?_ h)
  · unfold forgY
    exact ((hY.u ⟨(by omega), (by omega), (by omega), (by omega), (by omega), (by omega)⟩).u ⟨(by omega), (by omega), (by omega), (by omega), (by omega), (by omega)⟩).u ⟨(by omega), (by omega), (by omega), (by omega), (by omega), (by omega)⟩
  · unfold DI forgY
    simp only [upd2, Nat.reduceEqDiff, and_true, and_false, if_true, if_false, and_self, true_and]
    exact ⟨by omega, by simpa using hO, by omega, by omega, by omega, by simp⟩
