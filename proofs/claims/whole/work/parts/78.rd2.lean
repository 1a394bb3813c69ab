theorem c_endB {l : Launch} {E : EnvT} {d : Nat} {K : AV → Mem → Prop} {M : Mem} {a b c : Nat} {A T C : Ch} {L : Nat} (hd : 2 ≤ d) (o : O3 a b c) (hT : TI T L) (h : K (.int (iN (b2i (endS (true, T, C)).1)), 0) (m3 M a b c A (endS (true, T, C)).2.1 (endS (true, T, C)).2.2)) : CT l E d m_Tokens_standsSign [(.ref b, 4), (.int (iN 59), 0)] (m3 M a b c A T C) (fun v M1 => ((((toI v) = 0 ∨ (toI v) = 1)) ∧ K (.int (toI v), 0) M1)) :=
  c_ssB hd o hT (by omega) (by omega) ⟨bb01 _, h⟩
theorem endS_t {q : PS} (h : q.1 = true) : endS q = endS (true, q.2.1, q.2.2) := by
  obtain ⟨b, T, C⟩ := q
  have : b = true := h
  subst this
  rfl
theorem c_readSinger {l : Launch} {E : EnvT} {d : Nat} {K : AV → Mem → Prop} {M : Mem} {rc : Nat} {A T C : Ch} {L : Nat} (hd : 8 ≤ d) (hq : 16 ≤ rc) (hT : TI T L) (L9 : L ≤ 900) (hX : XB M) (hV : VB C) (h : K (.int (iN (b2i (rS0 (M 0 2) L T C).1)), 0) (m3 M 1 2 rc A (rS0 (M 0 2) L T C).2.1 (rS0 (M 0 2) L T C).2.2)) : CT l E d m_CReader_readSinger [(.ref 1, 3), (.ref rc, 11)] (m3 M 1 2 rc A T C) K := by
  refine CT.of pn_CReader (Nat.le_of_ble_eq_true rfl) ?_
  have o := O12 hq
  have hn := hV.n
  refine b_CReader_readSinger_0 (by omega) ?_
  unfold rS0 at h
  rw [m3_c M, iN_lt (by omega) (by omega) (by omega) (by omega)]
  refine ⟨fun c => c_advB (by omega) o hT L9 hX (c_nmB (by omega) o (adv_TI L9 hX hT) ?_), fun c => c_rfB (by omega) o hT (by omega) (by omega) ⟨z01, ?_⟩⟩
  · rw [if_pos c] at h
    have t1 := nm_TI (adv_TI L9 hX hT)
    generalize nmT (advT (M 0 2) L T) = q1 at h t1
    unfold rS1 at h
    rw [toI_int, b2i_z]
    refine ⟨fun c1 => c_find (by omega) (by rw [m3_c M]; exact hV) ?_, fun c1 => ⟨z01, ?_⟩⟩
    · rw [Bool.not_eq_false] at c1
      rw [if_pos c1] at h
      rw [m3_b M o, m3_c M, toI_int]
      have fr := findC_rng hV (lI (q1.2 0 9))
      rw [iN_eq (by omega) (by omega) (by omega) (by omega)]
      refine ⟨fun c2 => c_tkB (by omega) o t1 L9 hX (by omega) (by omega) ?_, fun c2 => c_rfB (by omega) o t1 (by omega) (by omega) ⟨z01, ?_⟩⟩
      · rw [if_pos c2] at h
        have t2 := kw_TI (adv_TI L9 hX t1) 1
        generalize kwT (advT (M 0 2) L q1.2) 1 = q2 at h t2
        unfold rS2 at h
        rw [toI_int, b2i_z]
        refine ⟨fun c3 => ⟨z01, ?_⟩, fun c3 => c_tnB (by omega) o t2 L9 hX (by omega) (by omega) (by omega) (by omega) ?_⟩
        · rw [if_neg (by simp [c3])] at h; exact h
        · rw [Bool.not_eq_false] at c3
          rw [if_pos c3] at h
          have t3 := nu_TI (adv_TI L9 hX t2) 0 999
          have b5 := t3.2.2.2.2.2.1
          generalize nuT (advT (M 0 2) L q2.2) 0 999 = q3 at h t3 b5
          unfold rS3 at h
          rw [toI_int, b2i_z]
          refine ⟨fun c4 => ?_, fun c4 => ⟨z01, ?_⟩⟩
          · rw [Bool.not_eq_false] at c4
            rw [if_pos c4] at h
            have e := setR_self (m3 M 1 2 rc A q3.2 C) rc
            rw [m3_c M] at e
            rw [m3_b M o, ← e]
            have b9 := t1.2.2.2.2.2.2.2.2.2.1
            refine c_addSinger (by omega) hV c b5.1 b5.2 ?_
            rw [m3_sc M, lI_small (by omega) (by omega), toI_int]
            have vs := VB_addSinger (nm := q1.2 0 9) hV c b5.1 b5.2
            obtain ⟨n, hnn⟩ : ∃ n : Nat, C 0 8 = n := ⟨(C 0 8).toNat, (by omega)⟩
            rw [hnn] at h
            rw [show ((n : Int)).toNat = n from rfl] at h
            rw [hnn]
            refine c_advB (by omega) o t3 L9 hX (c_readVoices (by omega) hq (adv_TI L9 hX t3) L9 hX vs (by omega) ?_)
            have t4 := rVo_PI L9 hX (s := n) (by omega) 4 _ _ (adv_TI L9 hX t3) vs
            generalize rVo (M 0 2) L n 4 (advT (M 0 2) L q3.2) (addSingerC C (q1.2 0 9) (q3.2 0 5)) = q4 at h t4
            unfold rS4 at h
            rw [toI_int, b2i_z]
            refine ⟨fun c5 => ?_, fun c5 => ⟨z01, ?_⟩⟩
            · rw [Bool.not_eq_false] at c5
              rw [if_pos c5] at h
              have b8 := t4.1.2.2.2.2.2.2.2.2.1
              rw [m3_b M o, iN_eq (by omega) (by omega) (by omega) (by omega)]
              refine ⟨fun c6 => ?_, fun c6 => c_readLine (by omega) hq t4.1 L9 hX t4.2 (by omega) ?_⟩
              · rw [if_neg c6, endS_t c5] at h
                exact c_endB (by omega) o t4.1 h
              · rw [if_pos c6] at h
                have t5 := rLine_PI L9 hX (s := n) (by omega) t4.1 t4.2
                generalize rLine (M 0 2) L n q4.2.1 q4.2.2 = q5 at h t5
                rw [toI_int, b2i_z]
                refine ⟨fun c7 => ?_, fun c7 => ⟨z01, ?_⟩⟩
                · rw [Bool.not_eq_false] at c7
                  rw [endS_t c7] at h
                  exact c_endB (by omega) o t5.1 h
                · unfold endS at h
                  rw [if_neg (by simp [c7])] at h; exact h
            · rw [if_neg (by simp [c5])] at h; exact h
          · rw [if_neg (by simp [c4])] at h; exact h
      · rw [if_neg c2] at h; exact h
    · rw [if_neg (by simp [c1])] at h; exact h
  · rw [if_neg c] at h; exact h
theorem c_readOwes {l : Launch} {E : EnvT} {d : Nat} {K : AV → Mem → Prop} {M : Mem} {rc : Nat} {A T C : Ch} {L : Nat} (hd : 8 ≤ d) (hq : 16 ≤ rc) (hT : TI T L) (L9 : L ≤ 900) (hX : XB M) (hV : VB C) (h : K (.int (iN (b2i (rO0 (M 0 2) L T C).1)), 0) (m3 M 1 2 rc A (rO0 (M 0 2) L T C).2.1 (rO0 (M 0 2) L T C).2.2)) : CT l E d m_CReader_readOwes [(.ref 1, 3), (.ref rc, 11)] (m3 M 1 2 rc A T C) K := by
  refine CT.of pn_CReader (Nat.le_of_ble_eq_true rfl) ?_
  have o := O12 hq
  have hn := hV.n
  have hV' : ∀ T', VB (m3 M 1 2 rc A T' C rc) := fun T' => by rw [m3_c M]; exact hV
  refine b_CReader_readOwes_0 (by omega) (c_sgB (by omega) o hT L9 hX (by omega) (hV' _) (by omega) (by omega) ?_)
  rw [m3_c M]
  have t1 := sg_TI (C := C) (adv_TI L9 hX hT) (-1)
  have r1 := sg_rng (T := advT (M 0 2) L T) hV (-1)
  unfold rO0 at h
  generalize sgT (advT (M 0 2) L T) C (-1) = q1 at h t1 r1
  unfold rO1 at h
  rw [toI_int, iN_eq (by omega) (by omega) (by omega) (by omega)]
  refine ⟨fun c1 => c_sgB (by omega) o t1 L9 hX (by omega) (hV' _) (by omega) (by omega) ?_, fun c1 => ⟨z01, ?_⟩⟩
  · rw [m3_c M]
    rw [if_neg c1] at h
    have t2 := sg_TI (C := C) (adv_TI L9 hX t1) q1.1
    have r2 := sg_rng (T := advT (M 0 2) L q1.2) hV q1.1
    generalize sgT (advT (M 0 2) L q1.2) C q1.1 = q2 at h t2 r2
    unfold rO2 at h
    rw [toI_int, iN_eq (by omega) (by omega) (by omega) (by omega)]
    refine ⟨fun c2 => ⟨z01, ?_⟩, fun c2 => c_tnB (by omega) o t2 L9 hX (by omega) (by omega) (by omega) (by omega) ?_⟩
    · rw [if_pos c2] at h; exact h
    · rw [if_neg c2] at h
      have t3 := nu_TI (adv_TI L9 hX t2) 1 99
      have ok := @nu_ok (advT (M 0 2) L q2.2) 1 99
      generalize nuT (advT (M 0 2) L q2.2) 1 99 = q3 at h t3 ok
      unfold rO3 at h
      rw [toI_int, b2i_z]
      refine ⟨fun c3 => ?_, fun c3 => ⟨z01, ?_⟩⟩
      · rw [Bool.not_eq_false] at c3
        rw [if_pos c3] at h
        have q := ok c3
        have n1 : 1 ≤ q3.2 0 5 ∧ q3.2 0 5 ≤ 99 := by rw [q.1]; omega
        have e := setR_self (m3 M 1 2 rc A q3.2 C) rc
        rw [m3_c M] at e
        rw [m3_b M o, ← e]
        obtain ⟨a, ha⟩ : ∃ a : Nat, q1.1 = a := ⟨q1.1.toNat, (by omega)⟩
        obtain ⟨b, hb⟩ : ∃ b : Nat, q2.1 = b := ⟨q2.1.toNat, (by omega)⟩
        rw [ha, hb, show ((b : Int)).toNat = b from rfl] at h
        rw [ha, hb]
        refine c_owe (by omega) hV (a := a) (b := b) (by omega) (by omega) (by omega) (by omega) ?_
        rw [m3_sc M]
        generalize oweC C a b (q3.2 0 5) = q4 at h
        unfold rO4 at h
        rw [toI_int, b2i_z]
        refine ⟨fun c4 => c_tsB (by omega) o t3 L9 hX (by omega) (by omega) ⟨bb01 _, ?_⟩, fun c4 => c_rfB (by omega) o t3 (by omega) (by omega) ⟨z01, ?_⟩⟩
        · rw [Bool.not_eq_false] at c4
          rw [if_pos c4] at h; exact h
        · rw [if_neg (by simp [c4])] at h; exact h
      · rw [if_neg (by simp [c3])] at h; exact h
  · rw [if_pos c1] at h; exact h
theorem c_readHeir {l : Launch} {E : EnvT} {d : Nat} {K : AV → Mem → Prop} {M : Mem} {rc : Nat} {A T C : Ch} {L : Nat} (hd : 8 ≤ d) (hq : 16 ≤ rc) (hT : TI T L) (L9 : L ≤ 900) (hX : XB M) (hV : VB C) (h : K (.int (iN (b2i (rH0 (M 0 2) L T C).1)), 0) (m3 M 1 2 rc A (rH0 (M 0 2) L T C).2.1 (rH0 (M 0 2) L T C).2.2)) : CT l E d m_CReader_readHeir [(.ref 1, 3), (.ref rc, 11)] (m3 M 1 2 rc A T C) K := by
  refine CT.of pn_CReader (Nat.le_of_ble_eq_true rfl) ?_
  have o := O12 hq
  have hn := hV.n
  have hV' : ∀ T', VB (m3 M 1 2 rc A T' C rc) := fun T' => by rw [m3_c M]; exact hV
  refine b_CReader_readHeir_0 (by omega) (c_sgB (by omega) o hT L9 hX (by omega) (hV' _) (by omega) (by omega) ?_)
  rw [m3_c M]
  have t1 := sg_TI (C := C) (adv_TI L9 hX hT) (-1)
  have r1 := sg_rng (T := advT (M 0 2) L T) hV (-1)
  unfold rH0 at h
  generalize sgT (advT (M 0 2) L T) C (-1) = q1 at h t1 r1
  unfold rH1 at h
  rw [toI_int, iN_eq (by omega) (by omega) (by omega) (by omega)]
  refine ⟨fun c1 => c_sgB (by omega) o t1 L9 hX (by omega) (hV' _) (by omega) (by omega) ?_, fun c1 => ⟨z01, ?_⟩⟩
  · rw [m3_c M]
    rw [if_neg c1] at h
    have t2 := sg_TI (C := C) (adv_TI L9 hX t1) q1.1
    have r2 := sg_rng (T := advT (M 0 2) L q1.2) hV q1.1
    generalize sgT (advT (M 0 2) L q1.2) C q1.1 = q2 at h t2 r2
    unfold rH2 at h
    rw [toI_int, iN_eq (by omega) (by omega) (by omega) (by omega)]
    refine ⟨fun c2 => ⟨iN_in (by omega) (by omega) (by omega), ?_⟩, fun c2 => ⟨z01, ?_⟩⟩
    · rw [if_neg c2] at h
      rw [m3_uc M, iN_cl (by omega) (by omega), iN_small (by omega) (by omega)]
      exact c_tsB (by omega) o t2 L9 hX (by omega) (by omega) ⟨bb01 _, h⟩
    · rw [if_pos c2] at h; exact h
  · rw [if_pos c1] at h; exact h
theorem c_readHums {l : Launch} {E : EnvT} {d : Nat} {K : AV → Mem → Prop} {M : Mem} {rc : Nat} {A T C : Ch} {L : Nat} (hd : 8 ≤ d) (hq : 16 ≤ rc) (hT : TI T L) (L9 : L ≤ 900) (hX : XB M) (hV : VB C) (hA : A 0 1 = 0 ∨ A 0 1 = 1) (h : K (.int (iN (b2i (rU0 (M 0 2) L A T C).1)), 0) (m3 M 1 2 rc (if A 0 1 = 0 then upd2 A 0 1 1 else A) (rU0 (M 0 2) L A T C).2.1 (rU0 (M 0 2) L A T C).2.2)) : CT l E d m_CReader_readHums [(.ref 1, 3), (.ref rc, 11)] (m3 M 1 2 rc A T C) K := by
  refine CT.of pn_CReader (Nat.le_of_ble_eq_true rfl) ?_
  have o := O12 hq
  refine b_CReader_readHums_0 (by omega) ?_
  rw [m3_a M o, iN_eq0 (by omega) (by omega), m3_ua M o, iN_1I]
  unfold rU0 at h
  refine ⟨fun c => ⟨o01, c_tnB (by omega) o hT L9 hX (by omega) (by omega) (by omega) (by omega) ?_⟩, fun c => c_rfB (by omega) o hT (by omega) (by omega) ⟨z01, ?_⟩⟩
  · rw [if_pos c, if_pos c] at h
    have t3 := nu_TI (adv_TI L9 hX hT) 0 50
    have ok := @nu_ok (advT (M 0 2) L T) 0 50
    generalize nuT (advT (M 0 2) L T) 0 50 = q3 at h t3 ok
    unfold rU1 at h
    rw [toI_int, b2i_z]
    refine ⟨fun c3 => ?_, fun c3 => ⟨z01, ?_⟩⟩
    · rw [Bool.not_eq_false] at c3
      rw [if_pos c3] at h
      have q := ok c3
      have n1 : 0 ≤ q3.2 0 5 ∧ q3.2 0 5 ≤ 50 := by rw [q.1]; omega
      rw [m3_b M o, m3_uc M, iN_small (by omega) (by omega)]
      exact c_tsB (by omega) o t3 L9 hX (by omega) (by omega) ⟨bb01 _, h⟩
    · rw [if_neg (by simp [c3])] at h; exact h
  · rw [if_neg c, if_neg c] at h; exact h
def TG (T : Ch) : Prop := (0 ≤ T 0 3 ∧ T 0 3 ≤ 4) ∧ (0 ≤ T 0 4 ∧ T 0 4 ≤ 900) ∧ (0 ≤ T 0 5 ∧ T 0 5 ≤ 9999) ∧ (-128 ≤ T 0 6 ∧ T 0 6 ≤ 127) ∧ (0 ≤ T 0 7 ∧ T 0 7 ≤ 900) ∧ (-1 ≤ T 0 8 ∧ T 0 8 ≤ 21) ∧ (0 ≤ T 0 9 ∧ T 0 9 < 282429536481) ∧ (0 ≤ T 0 10 ∧ T 0 10 ≤ 9)
theorem TI.tg {T : Ch} {L : Nat} (h : TI T L) : TG T := h.2.2.2
theorem TI_start {T : Ch} {L : Nat} (hT : TG T) : TI (startT T L) L := by
  obtain ⟨a3, a4, a5, a6, a7, a8, a9, a10⟩ := hT
  unfold startT TI
  simp only [upd2, Nat.reduceEqDiff, and_true, and_false, if_true, if_false, and_self, true_and]
  exact ⟨⟨by omega, by omega⟩, a3, a4, a5, a6, a7, a8, a9, by omega⟩
theorem c_start {l : Launch} {E : EnvT} {d : Nat} {K : AV → Mem → Prop} {M : Mem} {a b c : Nat} {A T C : Ch} {L : Nat} (hd : 7 ≤ d) (o : O3 a b c) (hT : TG T) (L9 : L ≤ 900) (hX : XB M) (h : K (.null, 0) (m3 M a b c A (advT (M 0 2) L (startT T L)) C)) : CT l E d m_Tokens_start [(.ref b, 4), (.ref 0, 2), (.int (iN L), 0)] (m3 M a b c A T C) K := by
  refine CT.of pn_Tokens (Nat.le_of_ble_eq_true rfl) ?_
  refine b_Tokens_start_0 (by omega) (c_min (by omega) (by omega) (by omega) (by omega) (by omega) ?_)
  rw [toI_int, show min (L : Int) 900 = L by omega, iN_small (by omega) (by omega), iN_0I, m3_ub M o, m3_ub M o, m3_ub M o, m3_ub M o]
  exact c_advB (by omega) o (TI_start hT) L9 hX h
theorem rPA_01 {A T : Ch} (hA : A 0 1 = 0 ∨ A 0 1 = 1) : rPA A T 0 1 = 0 ∨ rPA A T 0 1 = 1 := by
  unfold rPA
  split
  · exact Or.inr (upd2_same _ _ _ _)
  · exact hA
theorem c_readPart {l : Launch} {E : EnvT} {d : Nat} {K : AV → Mem → Prop} {M : Mem} {rc : Nat} {A T C : Ch} {L : Nat} {n t : Int} (hd : 9 ≤ d) (hq : 16 ≤ rc) (hT : TI T L) (L9 : L ≤ 900) (hX : XB M) (hV : VB C) (hA : A 0 1 = 0 ∨ A 0 1 = 1) (h3 : T 0 3 ≠ 0) (hnt : t ≤ n) (t1 : 0 ≤ t) (n2 : n ≤ 900) (h : G l E d m_CReader_readAll 146 [(0, (.ref 1, 3)), (2, (.int (iN n), 0)), (3, (.ref rc, 11)), (4, (.int (iN t), 0)), (5, (.int (iN (b2i (rPart (M 0 2) L A T C).1)), 0))] [] (m3 M 1 2 rc (rPA A T) (rPart (M 0 2) L A T C).2.1 (rPart (M 0 2) L A T C).2.2) K) : G l E d m_CReader_readAll 21 [(0, (.ref 1, 3)), (2, (.int (iN n), 0)), (3, (.ref rc, 11)), (4, (.int (iN t), 0))] [] (m3 M 1 2 rc A T C) K := by
  have o := O12 hq
  have a3 := hT.2.2.2.1
  have a8 := hT.2.2.2.2.2.2.2.2.1
  refine b_CReader_readAll_21 (by omega) ⟨fun c => absurd ((iN_lt (by omega) (by omega) (by omega) (by omega)).mp c) (by omega), fun _ => ?_⟩
  rw [m3_b M o]
  refine ⟨fun c => absurd ((iN_eq0 (by omega) (by omega)).mp c) h3, fun _ => ?_⟩
  have ek : ∀ j : Int, -100 ≤ j → j ≤ 100 → (iN (T 0 8) = iN j ↔ T 0 8 = j) := fun j j1 j2 => iN_eq (by omega) (by omega) (by omega) (by omega)
  rw [ek 0 (by omega) (by omega), ek 1 (by omega) (by omega), ek 2 (by omega) (by omega), ek 3 (by omega) (by omega), ek 4 (by omega) (by omega), ek 5 (by omega) (by omega), ek 6 (by omega) (by omega), ek 7 (by omega) (by omega), ek 8 (by omega) (by omega)]
  unfold rPart at h
  have oth : T 0 8 ≠ 0 → T 0 8 ≠ 6 → T 0 8 ≠ 7 → T 0 8 ≠ 8 → CT l E (d - 1) m_Tokens_refuse [(.ref 2, 4), (.int (iN 2), 0)] (m3 M 1 2 rc A T C) (fun v1 M1 => G l E d m_CReader_readAll 146 [(0, (.ref 1, 3)), (2, (.int (iN n), 0)), (3, (.ref rc, 11)), (4, (.int (iN t), 0)), (5, (.int (toI v1), 0))] [] M1 K) := by
    intro e0 e6 e7 e8
    rw [if_neg e0, if_neg e6, if_neg e7, if_neg e8] at h
    unfold rPA at h
    rw [if_neg (fun q => e8 q.1)] at h
    exact c_rfB (by omega) o hT (by omega) (by omega) h
  refine ⟨fun e => ?_, fun n0 => ⟨fun e => oth (by omega) (by omega) (by omega) (by omega), fun n1 => ⟨fun e => oth (by omega) (by omega) (by omega) (by omega), fun n2 => ⟨fun e => oth (by omega) (by omega) (by omega) (by omega), fun n3 => ⟨fun e => oth (by omega) (by omega) (by omega) (by omega), fun n4 => ⟨fun e => oth (by omega) (by omega) (by omega) (by omega), fun n5 => ⟨fun e => ?_, fun n6 => ⟨fun e => ?_, fun n7 => ⟨fun e => ?_, fun n8 => oth (by omega) (by omega) (by omega) (by omega)⟩⟩⟩⟩⟩⟩⟩⟩⟩
  · rw [if_pos e] at h
    unfold rPA at h
    rw [if_neg (fun q => absurd q.1 (by omega))] at h
    exact c_readSinger (by omega) hq hT L9 hX hV h
  · rw [if_neg n0, if_pos e] at h
    unfold rPA at h
    rw [if_neg (fun q => absurd q.1 (by omega))] at h
    exact c_readOwes (by omega) hq hT L9 hX hV h
  · rw [if_neg n0, if_neg n6, if_pos e] at h
    unfold rPA at h
    rw [if_neg (fun q => absurd q.1 (by omega))] at h
    exact c_readHeir (by omega) hq hT L9 hX hV h
  · rw [if_neg n0, if_neg n6, if_neg n7, if_pos e] at h
    unfold rPA at h
    refine c_readHums (by omega) hq hT L9 hX hV hA ?_
    by_cases c : A 0 1 = 0
    · rw [if_pos ⟨e, c⟩] at h; rw [if_pos c]; exact h
    · rw [if_neg (fun q => c q.2)] at h; rw [if_neg c]; exact h
theorem c_cReadAll {l : Launch} {E : EnvT} {d : Nat} {K : AV → Mem → Prop} {M : Mem} {rc : Nat} {L : Nat} (hd : 9 ≤ d) (hq : 16 ≤ rc) (hT : TG (M 2)) (L9 : L ≤ 900) (hX : XB M) (hV : VB (M rc)) (h : K (.int (iN (b2i (rAll (M 0 2) L (M 1) (M 2) (M rc)).1)), 0) (m3 M 1 2 rc (rAll (M 0 2) L (M 1) (M 2) (M rc)).2.1 (rAll (M 0 2) L (M 1) (M 2) (M rc)).2.2.1 (rAll (M 0 2) L (M 1) (M 2) (M rc)).2.2.2)) : CT l E d m_CReader_readAll [(.ref 1, 3), (.ref 0, 2), (.int (iN L), 0), (.ref rc, 11)] M K := by
  refine CT.of pn_CReader (Nat.le_of_ble_eq_true rfl) ?_
  have o := O12 hq
  have key : ∀ (m t : Nat) (A T C : Ch), t + m = L + 1 → (A 0 1 = 0 ∨ A 0 1 = 1) → TI T L → VB C → K (.int (iN (b2i (rAllF (M 0 2) L m A T C).1)), 0) (m3 M 1 2 rc (rAllF (M 0 2) L m A T C).2.1 (rAllF (M 0 2) L m A T C).2.2.1 (rAllF (M 0 2) L m A T C).2.2.2) → G l E d m_CReader_readAll 21 [(0, (.ref 1, 3)), (2, (.int (iN L), 0)), (3, (.ref rc, 11)), (4, (.int (iN t), 0))] [] (m3 M 1 2 rc A T C) K := by
    intro m
    induction m with
    | zero =>
      intro t A T C ht hA hT hV h
      refine b_CReader_readAll_21 (by omega) ⟨fun _ => ⟨o01, h⟩, fun c => absurd ((iN_lt (by omega) (by omega) (by omega) (by omega)).mpr (by omega)) c⟩
    | succ m ih =>
      intro t A T C ht hA hT hV h
      have a3 := hT.2.2.2.1
      unfold rAllF at h
      by_cases c3 : T 0 3 = 0
      · rw [if_pos c3] at h
        refine b_CReader_readAll_21 (by omega) ⟨fun c => absurd ((iN_lt (by omega) (by omega) (by omega) (by omega)).mp c) (by omega), fun _ => ?_⟩
        rw [m3_b M o]
        exact ⟨fun _ => ⟨o01, h⟩, fun c => absurd ((iN_eq0 (by omega) (by omega)).mpr c3) c⟩
      · rw [if_neg c3] at h
        refine c_readPart (by omega) hq hT L9 hX hV hA c3 (by omega) (by omega) (by omega) ?_
        have pi := rPart_PI L9 hX (A := A) hT hV
        generalize rPart (M 0 2) L A T C = q at h pi
        refine b_CReader_readAll_146 (by omega) ?_
        rw [b2i_z, iN_add]
        refine ⟨fun c => c_advB (by omega) o pi.1 L9 hX (ih (t + 1) _ _ _ (by omega) (rPA_01 hA) (adv_TI L9 hX pi.1) pi.2 ?_), fun c => ⟨z01, ?_⟩⟩
        · rw [Bool.not_eq_false] at c
          rw [if_pos c] at h; exact h
        · rw [if_neg (by simp [c])] at h; exact h
  have e := m3_id M o
  rw [← e]
  refine b_CReader_readAll_0 (by omega) ?_
  have e2 := setR_self (m3 M 1 2 rc (M 1) (M 2) (M rc)) rc
  rw [m3_c M] at e2
  rw [← e2]
  refine c_makeEmpty (by omega) ⟨z01, ?_⟩
  rw [m3_sc M, m3_ua M o, iN_0I]
  exact c_start (by omega) o hT L9 hX (key (L + 1) 0 _ _ _ (by omega) (Or.inl (upd2_same _ _ _ _)) (adv_TI L9 hX (TI_start hT)) (VB_empty hV) h)
