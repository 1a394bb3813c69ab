theorem OKT.zk {X : Nat → Int} {L k : Nat} {p : Int} {T Z : Ch} {v : Int} (ok : OKT X L p T Z) (hk : 19 ≤ k) : OKT X L p T (upd2 Z 0 k v) := by
  obtain ⟨⟨⟨x1, x2⟩, t1, t2, t3, t4, t5, t6, t7, t8⟩, ti, z18, t10, gp⟩ := ok
  have e : ∀ j, j < 19 → upd2 Z 0 k v 0 j = Z 0 j := fun j hj => upd2_k _ _ (by omega)
  have e7 : upd2 Z 0 k v 7 = Z 7 := upd2_c _ _ (by decide)
  refine ⟨⟨⟨by rw [e 11 (by omega)]; exact x1, fun j hj => by rw [e7]; exact x2 j hj⟩, by rw [e 13 (by omega)]; exact t1, by rw [e 12 (by omega)]; exact t2, by rw [e 14 (by omega)]; exact t3, by rw [e 15 (by omega)]; exact t4, by rw [e 15 (by omega)]; exact t5, t6, t7, by rw [e 15 (by omega)]; exact t8⟩, ti, by rw [e 18 (by omega), e 17 (by omega)]; exact z18, t10, gp⟩
theorem OKT.z8 {X : Nat → Int} {L k : Nat} {p : Int} {T Z : Ch} {v : Int} (ok : OKT X L p T Z) : OKT X L p T (upd2 Z 8 k v) := by
  obtain ⟨⟨⟨x1, x2⟩, t⟩, ti, z18, t10, gp⟩ := ok
  have e0 : upd2 Z 8 k v 0 = Z 0 := upd2_c _ _ (by decide)
  have e7 : upd2 Z 8 k v 7 = Z 7 := upd2_c _ _ (by decide)
  refine ⟨⟨⟨by rw [e0]; exact x1, fun j hj => by rw [e7]; exact x2 j hj⟩, ?_⟩, ti, by rw [e0]; exact z18, t10, gp⟩
  rw [e0]
  exact t
theorem r_yOW {l : Launch} {E : EnvT} {d : Nat} {K : AV → Mem → Prop} {M : Mem} {X : Nat → Int} {L sp : Nat} {p : Int} {C T Z Y : Ch} {A : Nat → Int} (hd : 11 ≤ d) (hX : XBn X) (L9 : L ≤ 900) (ok : OKT X L p (advT X L T) Z) (hV : VB C) (f0 : A 0 = C 0 8) (hN : NR C Z 0) (hs : sp < 60) (hy : (yWT X L C sp T Y).1 = true → ∀ (Z' : Ch) (A' : Nat → Int), ZP Z Z' → FrR (2646 + 6 * sp) A A' → SR X L p C sp (yWT X L C sp T Y).2.1 (yWT X L C sp T Y).2.2 Z' A' → K (.int (iN 1), 0) (zA M Z' A')) (hn : (yWT X L C sp T Y).1 = false → ∀ (Z' : Ch) (A' : Nat → Int), ZP Z Z' → FrR (2646 + 6 * sp) A A' → FZ (yWT X L C sp T Y).2.1 Z' → K (.int (iN 0), 0) (zA M Z' A')) : CT l E d m_Mod_yearOrder [(.ref 24, 41), (.int (iN 16), 0), (.int (iN ((2646 + 6 * sp : Nat) : Int)), 0)] (zA M Z A) K := by
  refine CT.of pn_Mod (Nat.le_of_ble_eq_true rfl) ?_
  refine b_Mod_yearOrder_0 (by omega) ?_
  exact ⟨fun c => absurd c (by decide +kernel), fun _ => ⟨fun c => absurd c (by decide +kernel), fun _ => ⟨fun c => absurd c (by decide +kernel), fun _ => ⟨fun c => absurd c (by decide +kernel), fun _ => ⟨fun c => absurd c (by decide +kernel), fun _ => ⟨fun c => absurd c (by decide +kernel), fun _ => ⟨fun c => absurd c (by decide +kernel), fun _ => ⟨fun c => absurd c (by decide +kernel), fun _ => ⟨fun c => absurd c (by decide +kernel), fun _ => ⟨fun c => absurd c (by decide +kernel), fun _ => ⟨fun _ => r_test (by omega) hX L9 ok hV f0 hN hs (fun q Z1 A1 z1 f1 sr => ⟨o01, hy q Z1 A1 z1 f1 sr⟩) (fun q Z1 A1 z1 f1 fz => ⟨z01, hn q Z1 A1 z1 f1 fz⟩), fun c => absurd rfl c⟩⟩⟩⟩⟩⟩⟩⟩⟩⟩⟩
theorem r_yOE {l : Launch} {E : EnvT} {d : Nat} {K : AV → Mem → Prop} {M : Mem} {Z : Ch} {A : Nat → Int} {x2 : Int32} (hd : 1 ≤ d) (h : K (.int (iN 1), 0) (zA M Z A)) : CT l E d m_Mod_yearOrder [(.ref 24, 41), (.int (iN 18), 0), (.int x2, 0)] (zA M Z A) K := by
  refine CT.of pn_Mod (Nat.le_of_ble_eq_true rfl) ?_
  refine b_Mod_yearOrder_0 (by omega) ?_
  exact ⟨fun c => absurd c (by decide +kernel), fun _ => ⟨fun c => absurd c (by decide +kernel), fun _ => ⟨fun c => absurd c (by decide +kernel), fun _ => ⟨fun c => absurd c (by decide +kernel), fun _ => ⟨fun c => absurd c (by decide +kernel), fun _ => ⟨fun c => absurd c (by decide +kernel), fun _ => ⟨fun c => absurd c (by decide +kernel), fun _ => ⟨fun c => absurd c (by decide +kernel), fun _ => ⟨fun c => absurd c (by decide +kernel), fun _ => ⟨fun c => absurd c (by decide +kernel), fun _ => ⟨fun c => absurd c (by decide +kernel), fun _ => ⟨fun c => absurd c (by decide +kernel), fun _ => ⟨o01, h⟩⟩⟩⟩⟩⟩⟩⟩⟩⟩⟩⟩⟩
/-- years that are being read: the class's reader D and years Y, the reference's Z and A -/
def YSt (D Y Z : Ch) (A : Nat → Int) : Prop := Z 0 23 = D 0 2 ∧ (∀ k : Nat, (k : Int) < D 0 2 → Z 8 k = D 1 k) ∧ Z 0 24 = Y 0 7 ∧ A 2412 = Y 0 6 ∧ (∀ i : Nat, (i : Int) < Y 0 6 → RYx Y A 2408 i) ∧ ∀ i : Nat, (i : Int) < Y 0 6 → (Y 1 i = 20 ∨ (opn Y i ∧ ¬ inSt D i)) → A (2650 + 6 * i) = Y 6 i
def ZY (Z Z' : Ch) : Prop := ∀ c k, ¬ (c = 0 ∧ ((12 ≤ k ∧ k ≤ 15) ∨ k = 17 ∨ k = 18 ∨ k = 23 ∨ k = 24)) → c ≠ 8 → Z' c k = Z c k
theorem ZP.y {Z Z' : Ch} (h : ZP Z Z') : ZY Z Z' := fun c k q _ => h c k (by omega)
theorem ZY.tr {Z Z' Z'' : Ch} (h : ZY Z Z') (h' : ZY Z' Z'') : ZY Z Z'' := fun c k q r => by rw [h' c k q r, h c k q r]
theorem RYx.cg {Y Y' : Ch} {A A' : Nat → Int} {i : Nat} (h : RYx Y A 2408 i) (e : ∀ c, 1 ≤ c → c ≤ 5 → Y' c i = Y c i) (f : ∀ j, 2646 + 6 * i ≤ j → j < 2652 + 6 * i → j ≠ 2650 + 6 * i → A' j = A j) : RYx Y' A' 2408 i := by
  unfold RYx at h ⊢
  rw [e 1 (by omega) (by omega), e 2 (by omega) (by omega), e 3 (by omega) (by omega), e 4 (by omega) (by omega), e 5 (by omega) (by omega), f _ (by omega) (by omega) (by omega), f _ (by omega) (by omega) (by omega), f _ (by omega) (by omega) (by omega), f _ (by omega) (by omega) (by omega), f _ (by omega) (by omega) (by omega)]
  exact h
theorem kw_beg {x : Int} (h1 : -1 ≤ x) (h2 : x ≤ 21) : (begB x = true ↔ (kwR x = 6 ∨ (9 ≤ kwR x ∧ kwR x ≤ 19 ∧ kwR x ≠ 15 ∧ kwR x ≠ 18))) ∧ (begB x = true → x ≠ 16 → kwR x = kR x) := by
  have : ∀ a : Nat, a < 23 → (begB ((a : Int) - 1) = true ↔ (kwR ((a : Int) - 1) = 6 ∨ (9 ≤ kwR ((a : Int) - 1) ∧ kwR ((a : Int) - 1) ≤ 19 ∧ kwR ((a : Int) - 1) ≠ 15 ∧ kwR ((a : Int) - 1) ≠ 18))) ∧ (begB ((a : Int) - 1) = true → (a : Int) - 1 ≠ 16 → kwR ((a : Int) - 1) = kR ((a : Int) - 1)) := by decide +kernel
  have := this (x + 1).toNat (by omega)
  rw [show (((x + 1).toNat : Nat) : Int) - 1 = x by omega] at this
  exact this
theorem yB_1 {X : Nat → Int} {L sp : Nat} {C T Y : Ch} (h : (yB X L C sp T Y).1 = true) (h1 : Y 1 sp = T 0 8) : (T 0 8 = 16 → (yB X L C sp T Y).2.2 1 sp = 1 ∨ (yB X L C sp T Y).2.2 1 sp = 17 ∨ (yB X L C sp T Y).2.2 1 sp = 18) ∧ (T 0 8 ≠ 16 → (yB X L C sp T Y).2.2 1 sp = T 0 8) := by
  unfold yB at h ⊢
  by_cases k : T 0 8 = 16
  · rw [if_pos k] at h ⊢
    refine ⟨fun _ => ?_, fun q => absurd k q⟩
    unfold yWT at h ⊢
    by_cases c : (yW X L sp T Y).1 = true
    · rw [if_pos c] at h ⊢
      rw [yTl_keep X L C sp _ _ _ 1 sp (by omega)]
      unfold yW at c ⊢
      by_cases c2 : advT X L T 0 8 = 17 ∨ advT X L T 0 8 = 1 ∨ advT X L T 0 8 = 18
      · rw [if_pos c2]
        show upd2 Y 1 sp (advT X L T 0 8) 1 sp = 1 ∨ upd2 Y 1 sp (advT X L T 0 8) 1 sp = 17 ∨ upd2 Y 1 sp (advT X L T 0 8) 1 sp = 18
        rw [upd2_same]
        omega
      · rw [if_neg c2] at c; cases c
    · rw [if_neg c] at h; cases h
  · rw [if_neg k] at h ⊢
    refine ⟨fun q => absurd q k, fun _ => ?_⟩
    rw [yTl_keep X L C sp _ _ _ 1 sp (by omega)]
    exact h1
set_option maxHeartbeats 4000000 in
theorem r_yearStep {l : Launch} {E : EnvT} {d : Nat} {K : AV → Mem → Prop} {M : Mem} {X : Nat → Int} {L : Nat} {p : Int} {C D T Z Y : Ch} {A : Nat → Int} (hd : 12 ≤ d) (hX : XBn X) (L9 : L ≤ 900) (ok : OKT X L p T Z) (hV : VB C) (f0 : A 0 = C 0 8) (hN : NR C Z 0) (hD : DI D Y) (yi : YI D Y (C 0 8)) (ys : YSt D Y Z A) (hy : (yPt X L C D T Y).1 = true → ∀ (Z' : Ch) (A' : Nat → Int), ZY Z Z' → (∀ j, j < 2408 → A' j = A j) → OKT X L (T 0 4 + 1) (advT X L (yPt X L C D T Y).2.2.1) Z' → YI (yPt X L C D T Y).2.1 (yPt X L C D T Y).2.2.2 (C 0 8) → YSt (yPt X L C D T Y).2.1 (yPt X L C D T Y).2.2.2 Z' A' → K (.int (iN 1), 0) (zA M Z' A')) (hn : (yPt X L C D T Y).1 = false → ∀ (Z' : Ch) (A' : Nat → Int), ZY Z Z' → (∀ j, j < 2408 → A' j = A j) → FZ (yPt X L C D T Y).2.2.1 Z' → K (.int (iN 0), 0) (zA M Z' A')) : CT l E d m_Mod_yearStep [(.ref 24, 41)] (zA M Z A) K := by
  refine CT.of pn_Mod (Nat.le_of_ble_eq_true rfl) ?_
  obtain ⟨s23, s8, s24, sA, sR, sP⟩ := ys
  obtain ⟨d1, d2, d3, d4, d5, d6⟩ := id hD
  obtain ⟨sp, hsp⟩ : ∃ sp : Nat, Y 0 6 = sp := ⟨(Y 0 6).toNat, (by omega)⟩
  obtain ⟨m, hm⟩ : ∃ m : Nat, D 0 2 = m := ⟨(D 0 2).toNat, (by omega)⟩
  have a8 := ok.2.1.2.2.2.2.2.2.2.2.1
  have kr := kwR_rng a8.1 a8.2
  have kb := kw_beg a8.1 a8.2
  have e18 : iN (kwR (T 0 8)) = iN 18 ↔ T 0 8 = 20 := (iN_eq (by omega) (by omega) (by omega) (by omega)).trans (kwR_inj (y := 20) a8.1 a8.2 (by omega) (by omega))
  have e16 : iN (kwR (T 0 8)) = iN 16 ↔ T 0 8 = 16 := (iN_eq (by omega) (by omega) (by omega) (by omega)).trans (kwR_inj (y := 16) a8.1 a8.2 (by omega) (by omega))
  have e17 : iN (kwR (T 0 8)) = iN 17 ↔ T 0 8 = 19 := (iN_eq (by omega) (by omega) (by omega) (by omega)).trans (kwR_inj (y := 19) a8.1 a8.2 (by omega) (by omega))
  have k18 : kwR (T 0 8) = 18 ↔ T 0 8 = 20 := kwR_inj (y := 20) a8.1 a8.2 (by omega) (by omega)
  -- from 129 on: the record is begun
  have g129 : ((begB (T 0 8) = true ∧ Y 0 7 < 30 ∧ ¬ (opB (T 0 8) = true ∧ 3 ≤ D 0 2)) ∨ (T 0 8 = 20 ∧ D 0 2 ≠ 0)) → G l E d m_Mod_yearStep 129 [(0, (.ref 24, 41)), (1, (.int (iN (kwR (T 0 8))), 0)), (2, (.int (iN (sp : Int)), 0)), (3, (.int (iN ((2646 + 6 * sp : Nat) : Int)), 0)), (4, (.int (iN (b2i (opB (T 0 8)))), 0))] [] (zA M Z A) K := by
    intro hc
    have sp60 : sp < 60 := by
      rcases hc with c | c
      · omega
      · omega
    have k0 : 0 ≤ kwR (T 0 8) := by
      rcases hc with c | c
      · have := kb.1.mp c.1; omega
      · have := k18.mpr c.1; omega
    have k8 : T 0 8 ≠ -1 := fun q => by rw [q] at k0; exact absurd k0 (by decide)
    have g182 : ∀ (w : Int) (A2 : Nat → Int), w = Y 0 7 + (if T 0 8 = 20 then 0 else 1) → A2 (2646 + 6 * sp) = kwR (T 0 8) → A2 2412 = sp → (∀ j, j < 2646 + 6 * sp → A2 j = A j) → G l E d m_Mod_yearStep 182 [(0, (.ref 24, 41)), (1, (.int (iN (kwR (T 0 8))), 0)), (2, (.int (iN (sp : Int)), 0)), (3, (.int (iN ((2646 + 6 * sp : Nat) : Int)), 0)), (4, (.int (iN (b2i (opB (T 0 8)))), 0))] [] (zA M (upd2 Z 0 24 w) A2) K := by
      intro w A2 hw a1 a2 a4
      refine b_Mod_yearStep_182 (by omega) ?_
      rw [zA_1, clA (z := 2412) (j := 2412) rfl (by omega), a2, iN_add, iN_small (by omega) (by omega), zA_u]
      have okw : OKT X L p T (upd2 Z 0 24 w) := ok.zk (by omega)
      refine ⟨inA (by omega) (by omega), inA (by omega) (by omega), r_next1 (by omega) hX L9 okw k8 (fun Z2 z2 ok2 => ?_)⟩
      have b1 : updP A2 2412 ((sp : Int) + 1) (2646 + 6 * sp) = kwR (T 0 8) := by rw [updP_ne _ _ (by omega)]; exact a1
      have b2 : updP A2 2412 ((sp : Int) + 1) 2412 = (sp : Int) + 1 := updP_same _ _ _
      have b4 : ∀ j, j < 2646 + 6 * sp → j ≠ 2412 → updP A2 2412 ((sp : Int) + 1) j = A j := fun j q1 q2 => by rw [updP_ne _ _ q2]; exact a4 j q1
      generalize updP A2 2412 ((sp : Int) + 1) = A3 at b1 b2 b4 ⊢
      have f3 : A3 0 = C 0 8 := by rw [b4 0 (by omega) (by omega)]; exact f0
      have zy2 : ZY Z Z2 := fun c k q1 q2 => by
        rw [z2 c k (by omega), upd2_nn _ (by omega)]
      have N2 : NR C Z2 0 := fun s hs => by rw [zy2 2 _ (by omega) (by decide)]; exact hN s hs
      have c23 : Z2 0 23 = m := by rw [z2 0 23 (by omega), upd2_k _ _ (by decide), s23]; exact hm
      have c24 : Z2 0 24 = w := by rw [z2 0 24 (by omega), upd2_same]
      have c8 : ∀ k : Nat, k < m → Z2 8 k = D 1 k := fun k hk => by rw [z2 8 k (by omega), upd2_c _ _ (by decide)]; exact s8 k (by omega)
      rcases hc with ⟨hb, h30, hop⟩ | ⟨h20, hd0⟩
      · -- a step
        have n20 : T 0 8 ≠ 20 := fun q => by have := kb.1.mp hb; have := k18.mpr q; omega
        rw [if_neg n20] at hw
        have ept : yPt X L C D T Y = yS4 X L (yD1 D (T 0 8) sp) (yB X L C sp T (addStepY Y (T 0 8))) := by
          unfold yPt
          rw [if_neg n20]
          unfold yS0
          rw [if_pos hb, if_pos h30, if_neg hop, yS1_B hsp]
        rw [ept] at hy hn
        have ac := addStep_c Y (T 0 8) hsp
        have a0 := addStep_0 Y (T 0 8)
        have keep := yB_keep X L C sp T (addStepY Y (T 0 8))
        have body : CT l E (d - 1) m_Mod_yearOrder [(.ref 24, 41), (.int (iN (kwR (T 0 8))), 0), (.int (iN ((2646 + 6 * sp : Nat) : Int)), 0)] (zA M Z2 A3) (fun v2 M2 => ((¬ (toI v2) = 0 → G l E d m_Mod_yearStep 209 [(0, (.ref 24, 41)), (1, (.int (iN (kwR (T 0 8))), 0)), (2, (.int (iN (sp : Int)), 0)), (3, (.int (iN ((2646 + 6 * sp : Nat) : Int)), 0)), (4, (.int (iN (b2i (opB (T 0 8)))), 0))] [] M2 K) ∧ ((toI v2) = 0 → ((((iN 0) = 0 ∨ (iN 0) = 1)) ∧ K (.int (iN 0), 0) M2)))) := by
          have yes : (yB X L C sp T (addStepY Y (T 0 8))).1 = true → ∀ (Z3 : Ch) (A4 : Nat → Int), ZP Z2 Z3 → FrR (2646 + 6 * sp) A3 A4 → SR X L (T 0 4 + 1) C sp (yB X L C sp T (addStepY Y (T 0 8))).2.1 (yB X L C sp T (addStepY Y (T 0 8))).2.2 Z3 A4 → G l E d m_Mod_yearStep 209 [(0, (.ref 24, 41)), (1, (.int (iN (kwR (T 0 8))), 0)), (2, (.int (iN (sp : Int)), 0)), (3, (.int (iN ((2646 + 6 * sp : Nat) : Int)), 0)), (4, (.int (iN (b2i (opB (T 0 8)))), 0))] [] (zA M Z3 A4) K := by
            intro q1 Z3 A4 z3 f4 sr
            have y1 := yB_1 q1 ac.1
            generalize hq : yB X L C sp T (addStepY Y (T 0 8)) = q at q1 sr y1 hy hn keep
            obtain ⟨bq, T3, Y3⟩ := q
            have q1 : bq = true := q1
            subst q1
            obtain ⟨sok, srx, syp⟩ := sr
            dsimp only at sok srx syp y1 keep
            unfold yS4 at hy hn
            rw [if_pos rfl] at hy hn
            dsimp only at hy hn
            have o8 : opn Y3 sp ↔ opB (T 0 8) = true := by
              unfold opn opB
              rw [decide_eq_true_eq]
              have bb : T 0 8 = 3 ∨ T 0 8 = 9 ∨ (11 ≤ T 0 8 ∧ T 0 8 ≤ 16) ∨ T 0 8 = 19 ∨ T 0 8 = 21 := by unfold begB at hb; exact of_decide_eq_true hb
              by_cases k : T 0 8 = 16
              · have := y1.1 k
                omega
              · have := y1.2 k
                omega
            have n20' : Y3 1 sp ≠ 20 := by
              by_cases k : T 0 8 = 16
              · have := y1.1 k; omega
              · have := y1.2 k; omega
            have y06 : Y3 0 6 = (sp : Int) + 1 := by rw [keep 0 6 (by omega), a0.1, hsp]
            have y07 : Y3 0 7 = Y 0 7 + 1 := by rw [keep 0 7 (by omega), a0.2.1]
            have yc : ∀ c i, 1 ≤ c → i < sp → Y3 c i = Y c i := fun c i c1 hi => by rw [keep c i (by omega)]; exact ac.2 c i c1 (by omega)
            have A4 : A4 = A4 := rfl
            have fin : ∀ (Z4 : Ch) (D' : Ch), ZY Z3 Z4 → OKT X L (T 0 4 + 1) (advT X L T3) Z4 → yD1 D (T 0 8) sp = D' → Z4 0 23 = D' 0 2 → (∀ k : Nat, (k : Int) < D' 0 2 → Z4 8 k = D' 1 k) → Z4 0 24 = Z3 0 24 → ((opn Y3 sp ∧ D' 0 2 = (m : Int) + 1 ∧ D' 1 m = sp ∧ ∀ k, k ≠ m → D' 1 k = D 1 k) ∨ (¬ opn Y3 sp ∧ D' = D)) → ∀ A5 : Nat → Int, FrR (2646 + 6 * sp) A3 A5 → RYx Y3 A5 2408 sp → G l E d m_Mod_yearStep 234 [(0, (.ref 24, 41)), (1, (.int (iN (kwR (T 0 8))), 0)), (2, (.int (iN (sp : Int)), 0)), (3, (.int (iN ((2646 + 6 * sp : Nat) : Int)), 0))] [] (zA M Z4 A5) K := by
              intro Z4 D' z4 ok4 eD v23 v8 v24 hst A5 f5 rx5
              rw [eD] at hy
              have yi' : YI D' Y3 (C 0 8) := YI_step yi hsp hm y06 yc n20' syp hst
              have fj : ∀ j, j < 2646 + 6 * sp → j ≠ 2412 → A5 j = A j := fun j q1 q2 => by rw [f5 j (by omega)]; exact b4 j q1 q2
              have st : ∀ i, i < sp → (inSt D' i ↔ inSt D i) := by
                intro i hi
                rcases hst with ⟨_, x1, x2, x3⟩ | ⟨_, x1⟩
                · refine ⟨fun ⟨k, k1, k2⟩ => ?_, fun ⟨k, k1, k2⟩ => ?_⟩
                  · by_cases q : k = m
                    · rw [q, x2] at k2; omega
                    · exact ⟨k, by rw [hm]; omega, by rw [← x3 k q]; exact k2⟩
                  · rw [hm] at k1
                    exact ⟨k, by rw [x1]; omega, by rw [x3 k (by omega)]; exact k2⟩
                · rw [x1]
              have ys' : ∀ Z5, ZP Z4 Z5 → YSt D' Y3 Z5 A5 := by
                intro Z5 z5
                refine ⟨by rw [z5 0 23 (by omega)]; exact v23, fun k hk => by rw [z5 8 k (by omega)]; exact v8 k hk, ?_, ?_, fun i hi => ?_, fun i hi hq => ?_⟩
                · rw [z5 0 24 (by omega), v24, z3 0 24 (by omega), c24, y07]; exact hw
                · rw [f5 2412 (by omega), b2, y06]
                · rw [y06] at hi
                  by_cases q : i = sp
                  · rw [q]; exact rx5
                  · exact (sR i (by omega)).cg (fun c c1 c2 => yc c i (by omega) (by omega)) (fun j j1 j2 j3 => fj j (by omega) (by omega))
                · rw [y06] at hi
                  by_cases q : i = sp
                  · exfalso
                    rw [q] at hq
                    rcases hq with h | ⟨h1, h2⟩
                    · exact n20' h
                    · rcases hst with ⟨_, x1, x2, x3⟩ | ⟨x0, _⟩
                      · exact h2 ⟨m, by rw [x1]; omega, x2⟩
                      · exact x0 h1
                  · rw [fj _ (by omega) (by omega), yc 6 i (by omega) (by omega)]
                    refine sP i (by omega) ?_
                    rcases hq with h | ⟨h1, h2⟩
                    · rw [yc 1 i (by omega) (by omega)] at h; exact Or.inl h
                    · exact Or.inr ⟨(opn.cg (yc 1 i (by omega) (by omega))).mp h1, fun r => h2 ((st i (by omega)).mpr r)⟩
              refine b_Mod_yearStep_234 (by omega) ⟨fun _ => b_Mod_yearStep_291 (by omega) (r_wantSign (by omega) hX L9 ok4 (by omega) (by omega) (fun c Z5 z5 ok5 => ⟨o01, ?_⟩) (fun c Z5 z5 f5' => ⟨z01, ?_⟩)), fun c => absurd (e18.mp c) n20⟩
              · exact hy c Z5 A5 (((zy2.tr z3.y).tr z4).tr z5.y) (fun j hj => fj j (by omega) (by omega)) ok5 yi' (ys' Z5 z5)
              · exact hn c Z5 A5 (((zy2.tr z3.y).tr z4).tr z5.y) (fun j hj => fj j (by omega) (by omega)) f5'
            have d23 : Z3 0 23 = m := by rw [z3 0 23 (by omega)]; exact c23
            have d8 : ∀ k : Nat, k < m → Z3 8 k = D 1 k := fun k hk => by rw [z3 8 k (by omega)]; exact c8 k hk
            refine b_Mod_yearStep_209 (by omega) ?_
            cases ob : opB (T 0 8) with
            | false =>
              have eD : yD1 D (T 0 8) sp = D := by unfold yD1; rw [if_neg (by rw [ob]; decide)]
              exact ⟨fun _ => fin Z3 D (fun _ _ _ _ => rfl) sok eD (by rw [d23]; exact hm.symm) (fun k hk => d8 k (by omega)) rfl (Or.inr ⟨fun q => (by rw [o8.mp q] at ob; cases ob), rfl⟩) _ f4 srx, fun c => absurd (by decide +kernel) c⟩
            | true =>
              refine ⟨fun c => absurd c (by decide +kernel), fun _ => ?_⟩
              have m3 : m < 3 := by
                have : ¬ 3 ≤ D 0 2 := fun q => hop ⟨ob, q⟩
                omega
              rw [zA_0, d23]
              refine ⟨iN_in (by omega) (by omega) (by omega), ?_⟩
              rw [iN_clN (by omega), iN_small (z := (sp : Int)) (by omega) (by omega), zA_uo M Z3 _ (show 8 ≠ 1 by decide), zA_0, upd2_c _ _ (show 0 ≠ 8 by decide), d23, iN_add, iN_small (by omega) (by omega), zA_u0]
              have eD : yD1 D (T 0 8) sp = upd2 (upd2 D 1 m sp) 0 2 ((m : Int) + 1) := by
                unfold yD1
                rw [if_pos ob, hm]
                rfl
              refine fin _ _ (fun c k r1 r2 => by rw [upd2_nn _ (by omega), upd2_c _ _ r2]) (sok.z8.zk (by omega)) eD ?_ (fun k hk => ?_) ?_ (Or.inl ⟨o8.mpr ob, upd2_same _ _ _ _, ?_, fun k hk => ?_⟩) _ f4 srx
              · rw [upd2_same, upd2_same]
              · rw [upd2_same] at hk
                rw [upd2_c _ _ (by decide), upd2_at, upd2_c _ _ (by decide), upd2_at]
                by_cases r : k = m
                · rw [if_pos r, if_pos r]
                · rw [if_neg r, if_neg r]; exact d8 k (by omega)
              · rw [upd2_k _ _ (by decide), upd2_c _ _ (by decide)]
              · rw [upd2_c _ _ (by decide), upd2_same]
              · rw [upd2_c _ _ (by decide), upd2_k _ _ hk]
          have no : (yB X L C sp T (addStepY Y (T 0 8))).1 = false → ∀ (Z3 : Ch) (A4 : Nat → Int), ZP Z2 Z3 → FrR (2646 + 6 * sp) A3 A4 → FZ (yB X L C sp T (addStepY Y (T 0 8))).2.1 Z3 → K (.int (iN 0), 0) (zA M Z3 A4) := by
            intro q1 Z3 A4 z3 f4 fz
            unfold yS4 at hn
            rw [if_neg (by rw [q1]; decide)] at hn
            exact hn rfl Z3 A4 (zy2.tr z3.y) (fun j hj => by rw [f4 j (by omega)]; exact b4 j (by omega) (by omega)) fz
          by_cases k : T 0 8 = 16
          · have eB : yB X L C sp T (addStepY Y (T 0 8)) = yWT X L C sp T (addStepY Y (T 0 8)) := by unfold yB; rw [if_pos k]
            rw [eB] at yes no
            have k16 : kwR (T 0 8) = 16 := by rw [k]; rfl
            rw [k16] at yes ⊢
            refine r_yOW (by omega) hX L9 ok2 hV f3 N2 sp60 (fun q Z3 A4 z3 f4 sr => ⟨fun _ => yes q Z3 A4 z3 f4 sr, fun c => absurd c (by decide +kernel)⟩) (fun q Z3 A4 z3 f4 fz => ⟨fun c => absurd (by decide +kernel) c, fun _ => ⟨z01, no q Z3 A4 z3 f4 fz⟩⟩)
          · have eB : yB X L C sp T (addStepY Y (T 0 8)) = yTl X L C sp (STRB.getD (tlK (T 0 8)) []) T (addStepY Y (T 0 8)) := by unfold yB; rw [if_neg k]
            rw [eB] at yes no
            have ek := kb.2 hb k
            rw [ek] at yes b1 ⊢
            refine r_yearOrder (by omega) hX L9 ok2 hV f3 N2 sp60 ac.1 b1 ?_ (fun q Z3 A4 z3 f4 sr => ⟨fun _ => yes q Z3 A4 z3 f4 sr, fun c => absurd c (by decide +kernel)⟩) (fun q Z3 A4 z3 f4 fz => ⟨fun c => absurd (by decide +kernel) c, fun _ => ⟨z01, no q Z3 A4 z3 f4 fz⟩⟩)
            have bb : T 0 8 = 3 ∨ T 0 8 = 9 ∨ (11 ≤ T 0 8 ∧ T 0 8 ≤ 16) ∨ T 0 8 = 19 ∨ T 0 8 = 21 := by unfold begB at hb; exact of_decide_eq_true hb
            omega
        exact body
      · -- an end
        have ept : yPt X L C D T Y = ((stSg (advT X L T) 59).1, upd2 D 0 2 (D 0 2 - 1), (stSg (advT X L T) 59).2, addEndY Y (D 1 (D 0 2 - 1).toNat).toNat) := by
          unfold yPt
          rw [if_pos h20]
          unfold yE0
          rw [if_neg hd0]
        obtain ⟨m', hm'⟩ : ∃ m' : Nat, m = m' + 1 := ⟨m - 1, (by omega)⟩
        subst hm'
        obtain ⟨s, s1, s2, s3⟩ := yi.1 m' (by rw [hm]; push_cast; omega)
        rw [hsp] at s2
        have eD : (D 0 2 - 1) = (m' : Int) := by rw [hm]; push_cast; omega
        rw [ept, eD, show ((m' : Int)).toNat = m' from rfl, s1, show ((s : Int)).toNat = s from rfl] at hy hn
        rw [if_pos h20] at hw
        have kE : kwR (T 0 8) = 18 := k18.mpr h20
        have oE : opB (T 0 8) = false := by unfold opB; rw [decide_eq_false (by omega)]
        rw [kE, oE]
        rw [kE] at b1
        refine r_yOE (by omega) ?_
        rw [toI_int]
        refine ⟨fun _ => ?_, fun c => absurd c (by decide +kernel)⟩
        refine b_Mod_yearStep_209 (by omega) ⟨fun _ => ?_, fun c => absurd (by decide +kernel) c⟩
        have e81 : ∀ (Z' : Ch) (A' : Nat → Int), zA M Z' A' 24 8 = Z' 8 := fun Z' A' => zA_c M Z' A' (by decide)
        have u23 : (iN (Z2 0 23) - iN 1).toInt = m' := by
          rw [c23, iN_sub, show ((m' + 1 : Nat) : Int) - 1 = (m' : Int) by omega]
          exact iN_small (by omega) (by omega)
        have v8 : upd2 Z2 0 23 (m' : Int) 8 m' = s := by rw [upd2_c _ _ (by decide), c8 m' (by omega)]; exact s1
        refine b_Mod_yearStep_234 (by omega) ⟨fun c => absurd rfl c, fun _ => ?_⟩
        simp only [zA_0, u23, zA_u0, upd2_same, e81, zA_u, iN_add, iN_mul]
        rw [iN_clN (k := m') (by omega), v8, iN_small (z := (s : Int)) (by omega) (by omega), iN_small (z := (sp : Int)) (by omega) (by omega), clA (z := ((2646 + 6 * sp : Nat) : Int) + 4) (j := 2650 + 6 * sp) (by omega) (by omega), clA (z := 2646 + 6 * (s : Int) + 4) (j := 2650 + 6 * s) (by omega) (by omega)]
        refine ⟨iN_in (by omega) (by omega) (by omega), inA (by omega) (by omega), iN_in (by omega) (by omega) (by omega), inA (by omega) (by omega), ?_⟩
        have dd2 : upd2 D 0 2 (m' : Int) 1 = D 1 := upd2_c _ _ (by decide)
        have yi' := YI_end (D' := upd2 D 0 2 (m' : Int)) yi hsp (by rw [hm]; push_cast; rfl) s1 (upd2_same _ _ _ _) dd2
        obtain ⟨x1, x2, x3, x4, x5, x6, x7⟩ := addEnd_c Y hsp (show s < sp by omega)
        have x07 := (addEnd_0 Y s).2.1
        have ok3 : OKT X L (T 0 4 + 1) (advT X L T) (upd2 Z2 0 23 (m' : Int)) := ok2.zk (by omega)
        have aj : ∀ j, j ≠ 2650 + 6 * s → j ≠ 2650 + 6 * sp → updP (updP A3 (2650 + 6 * sp) s) (2650 + 6 * s) sp j = A3 j := fun j r1 r2 => by rw [updP_ne _ _ r1, updP_ne _ _ r2]
        have sOut : ¬ inSt (upd2 D 0 2 (m' : Int)) s := fun ⟨k, k1, k2⟩ => by
          rw [upd2_same] at k1
          rw [dd2] at k2
          have := yi.2.1 k m' (by omega) (by rw [hm]; push_cast; omega)
          omega
        have ys' : ∀ Z5, ZP (upd2 Z2 0 23 (m' : Int)) Z5 → YSt (upd2 D 0 2 (m' : Int)) (addEndY Y s) Z5 (updP (updP A3 (2650 + 6 * sp) s) (2650 + 6 * s) sp) := by
          intro Z5 z5
          refine ⟨by rw [z5 0 23 (by omega), upd2_same, upd2_same], fun k hk => ?_, ?_, ?_, fun i hi => ?_, fun i hi hq => ?_⟩
          · rw [upd2_same] at hk
            rw [z5 8 k (by omega), upd2_c _ _ (by decide), dd2]
            exact c8 k (by omega)
          · rw [z5 0 24 (by omega), upd2_k _ _ (by decide), c24, x07, hw]; omega
          · rw [aj 2412 (by omega) (by omega), b2, x1]
          · rw [x1] at hi
            by_cases q : i = sp
            · rw [q]
              unfold RYx
              rw [x2]
              refine ⟨by unfold kOk; omega, ?_, fun q => absurd q (by omega), fun q => absurd q (by omega), fun q => absurd q (by omega), fun q => absurd q (by omega), fun q => absurd q (by omega)⟩
              rw [aj _ (by omega) (by omega), show 2408 + 238 + 6 * sp = 2646 + 6 * sp by omega, b1]
              rfl
            · refine (sR i (by omega)).cg (fun c c1 c2 => ?_) (fun j j1 j2 j3 => ?_)
              · by_cases r : c = 1
                · rw [r]; exact x5 i q
                · rw [x7 c (by omega) c2]
              · rw [aj j (by omega) (by omega)]
                exact b4 j (by omega) (by omega)
          · rw [x1] at hi
            by_cases q : i = sp
            · rw [q, updP_ne _ _ (by omega), updP_same, x3]
            · by_cases r : i = s
              · rw [r, updP_same, x4]
              · rw [aj _ (by omega) (by omega), b4 _ (by omega) (by omega), x6 i q r]
                refine sP i (by omega) ?_
                rcases hq with h | ⟨h1, h2⟩
                · rw [x5 i q] at h; exact Or.inl h
                · refine Or.inr ⟨(opn.cg (x5 i q)).mp h1, fun ⟨k, k1, k2⟩ => h2 ⟨k, ?_, by rw [dd2]; exact k2⟩⟩
                  rw [hm] at k1
                  rw [upd2_same]
                  have : k ≠ m' := fun w => by rw [w, s1] at k2; omega
                  push_cast at k1
                  omega
        refine b_Mod_yearStep_291 (by omega) (r_wantSign (by omega) hX L9 ok3 (by omega) (by omega) (fun c Z5 z5 ok5 => ⟨o01, ?_⟩) (fun c Z5 z5 f5' => ⟨z01, ?_⟩))
        · refine hy c Z5 _ (fun c k r1 r2 => ?_) (fun j hj => ?_) ok5 yi' (ys' Z5 z5)
          · rw [z5 c k (by omega), upd2_nn _ (by omega)]; exact zy2 c k r1 r2
          · rw [aj j (by omega) (by omega)]; exact b4 j (by omega) (by omega)
        · refine hn c Z5 _ (fun c k r1 r2 => ?_) (fun j hj => ?_) f5'
          · rw [z5 c k (by omega), upd2_nn _ (by omega)]; exact zy2 c k r1 r2
          · rw [aj j (by omega) (by omega)]; exact b4 j (by omega) (by omega)
    have g149 : ∀ w : Int, w = Y 0 7 + (if T 0 8 = 20 then 0 else 1) → G l E d m_Mod_yearStep 149 [(0, (.ref 24, 41)), (1, (.int (iN (kwR (T 0 8))), 0)), (2, (.int (iN (sp : Int)), 0)), (3, (.int (iN ((2646 + 6 * sp : Nat) : Int)), 0)), (4, (.int (iN (b2i (opB (T 0 8)))), 0))] [] (zA M (upd2 Z 0 24 w) A) K := by
      intro w hw
      refine b_Mod_yearStep_149 (by omega) ⟨inA (by omega) (by omega), ?_⟩
      rw [clA (z := ((2646 + 6 * sp : Nat) : Int)) (j := 2646 + 6 * sp) rfl (by omega), iN_small (by omega) (by omega), zA_u]
      have zero : ∀ (f i : Nat) (A2 : Nat → Int), i + f = 6 → 1 ≤ i → A2 (2646 + 6 * sp) = kwR (T 0 8) → A2 2412 = sp → (∀ j, j < 2646 + 6 * sp → A2 j = A j) → G l E d m_Mod_yearStep 159 [(0, (.ref 24, 41)), (1, (.int (iN (kwR (T 0 8))), 0)), (2, (.int (iN (sp : Int)), 0)), (3, (.int (iN ((2646 + 6 * sp : Nat) : Int)), 0)), (4, (.int (iN (b2i (opB (T 0 8)))), 0)), (5, (.int (iN (i : Int)), 0))] [] (zA M (upd2 Z 0 24 w) A2) K := by
        intro f
        induction f with
        | zero =>
          intro i A2 e1 e2 r1 r2 r4
          exact b_Mod_yearStep_159 (by omega) ⟨fun _ => g182 w A2 hw r1 r2 r4, fun c => absurd ((iN_le (by omega) (by omega) (by omega) (by omega)).mpr (by omega)) c⟩
        | succ f ih =>
          intro i A2 e1 e2 r1 r2 r4
          refine b_Mod_yearStep_159 (by omega) ⟨fun c => absurd ((iN_le (by omega) (by omega) (by omega) (by omega)).mp c) (by omega), fun _ => ?_⟩
          rw [iN_add, iN_add, clA (z := ((2646 + 6 * sp : Nat) : Int) + (i : Int)) (j := 2646 + 6 * sp + i) (by omega) (by omega), iN_0I, zA_u]
          refine ⟨inA (by omega) (by omega), ih (i + 1) _ (by omega) (by omega) (by rw [updP_ne _ _ (by omega)]; exact r1) (by rw [updP_ne _ _ (by omega)]; exact r2) (fun j hj => by rw [updP_ne _ _ (by omega)]; exact r4 j hj)⟩
      exact zero 5 1 _ (by omega) (by omega) (updP_same _ _ _) (by rw [updP_ne _ _ (by omega), sA]; exact hsp) (fun j hj => updP_ne _ _ (by omega))
    refine b_Mod_yearStep_129 (by omega) ?_
    rw [zA_0, s24, iN_add, iN_add, iN_small (z := Y 0 7 + 1) (by omega) (by omega), iN_small (z := Y 0 7 + 0) (by omega) (by omega), zA_u0, zA_u0, e18]
    exact ⟨fun c => g149 _ (by rw [if_neg c]), fun c => g149 _ (by rw [if_pos c])⟩
  have g109 : ((begB (T 0 8) = true ∧ Y 0 7 < 30) ∨ (T 0 8 = 20 ∧ D 0 2 ≠ 0)) → G l E d m_Mod_yearStep 109 [(0, (.ref 24, 41)), (1, (.int (iN (kwR (T 0 8))), 0)), (2, (.int (iN (sp : Int)), 0)), (3, (.int (iN ((2646 + 6 * sp : Nat) : Int)), 0)), (4, (.int (iN (b2i (opB (T 0 8)))), 0))] [] (zA M Z A) K := by
    intro hc
    refine b_Mod_yearStep_109 (by omega) ?_
    rw [b2i_z, zA_0, s23, iN_eq (by omega) (by omega) (by omega) (by omega)]
    have cases' : ¬ (opB (T 0 8) = true ∧ 3 ≤ D 0 2) → G l E d m_Mod_yearStep 129 [(0, (.ref 24, 41)), (1, (.int (iN (kwR (T 0 8))), 0)), (2, (.int (iN (sp : Int)), 0)), (3, (.int (iN ((2646 + 6 * sp : Nat) : Int)), 0)), (4, (.int (iN (b2i (opB (T 0 8)))), 0))] [] (zA M Z A) K := by
      intro q
      refine g129 ?_
      rcases hc with c | c
      · exact Or.inl ⟨c.1, c.2, q⟩
      · exact Or.inr c
    refine ⟨fun c => cases' (fun q => by rw [c] at q; cases q.1), fun c => ⟨fun c2 => cases' (fun q => by omega), fun c2 => r_fails (by omega) ok (by omega) (by omega) (fun Z1 z1 f1 => ⟨z01, ?_⟩)⟩⟩
    rw [Bool.not_eq_false] at c
    have ob : T 0 8 = 16 ∨ T 0 8 = 19 := by unfold opB at c; exact of_decide_eq_true c
    have ept : yPt X L C D T Y = (false, D, rfT T 7, Y) := by
      unfold yPt
      rw [if_neg (by omega)]
      unfold yS0
      rcases hc with h | h
      · rw [if_pos h.1, if_pos h.2, if_pos ⟨c, by omega⟩]
      · omega
    rw [ept] at hn
    exact hn rfl Z1 A z1.y (fun _ _ => rfl) f1
  have bad : ∀ (w : Int) (D' Y' : Ch), 1 ≤ w → w ≤ 9 → yPt X L C D T Y = (false, D', rfT T w, Y') → CT l E (d - 1) m_Mod_fails [(.ref 24, 41), (.int (iN w), 0)] (zA M Z A) (fun v1 M1 => ((((toI v1) = 0 ∨ (toI v1) = 1)) ∧ K (.int (toI v1), 0) M1)) := by
    intro w D' Y' w1 w2 e
    refine r_fails (by omega) ok w1 w2 (fun Z1 z1 f1 => ⟨z01, ?_⟩)
    rw [e] at hn
    exact hn rfl Z1 A z1.y (fun _ _ => rfl) f1
  have bad2 : begB (T 0 8) ≠ true → T 0 8 ≠ 20 → yPt X L C D T Y = (false, D, rfT T 2, Y) := by
    intro q1 q2
    unfold yPt
    rw [if_neg q2]
    unfold yS0
    rw [if_neg q1]
  have bad6 : begB (T 0 8) = true → T 0 8 ≠ 20 → ¬ Y 0 7 < 30 → yPt X L C D T Y = (false, D, rfT T 6, Y) := by
    intro q1 q2 q3
    unfold yPt
    rw [if_neg q2]
    unfold yS0
    rw [if_pos q1, if_neg q3]
  have badE : T 0 8 = 20 → D 0 2 = 0 → yPt X L C D T Y = (false, D, rfT T 2, Y) := by
    intro q1 q2
    unfold yPt
    rw [if_pos q1]
    unfold yE0
    rw [if_pos q2]
  have g42 : G l E d m_Mod_yearStep 42 [(0, (.ref 24, 41)), (1, (.int (iN (kwR (T 0 8))), 0)), (2, (.int (iN (sp : Int)), 0)), (3, (.int (iN ((2646 + 6 * sp : Nat) : Int)), 0))] [(.int (iN (b2i (opB (T 0 8)))), 0)] (zA M Z A) K := by
    refine b_Mod_yearStep_42 (by omega) ?_
    rw [zA_0, s24, s23, e18, iN_eq (b := 6) (by omega) (by omega) (by omega) (by omega), iN_eq (b := 15) (by omega) (by omega) (by omega) (by omega), iN_eq (a := Y 0 7) (by omega) (by omega) (by omega) (by omega), iN_eq0 (a := D 0 2) (by omega) (by omega), iN_lt (b := 9) (by omega) (by omega) (by omega) (by omega), iN_lt (a := 19) (by omega) (by omega) (by omega) (by omega)]
    refine ⟨fun k6 => ⟨fun n18 => ⟨fun c => absurd c n18, fun _ => ⟨fun c30 => g109 (Or.inl ⟨kb.1.mpr (Or.inl k6), by omega⟩), fun c30 => bad 6 D Y (by omega) (by omega) (bad6 (kb.1.mpr (Or.inl k6)) n18 (by omega))⟩⟩, fun y18 => absurd (k18.mpr y18) (by omega)⟩, fun n6 => ⟨fun c9 => bad 2 D Y (by omega) (by omega) (bad2 (fun q => by have := kb.1.mp q; omega) (fun q => by have := k18.mpr q; omega)), fun c9 => ⟨fun c19 => bad 2 D Y (by omega) (by omega) (bad2 (fun q => by have := kb.1.mp q; omega) (fun q => by have := k18.mpr q; omega)), fun c19 => ⟨fun c15 => bad 2 D Y (by omega) (by omega) (bad2 (fun q => by have := kb.1.mp q; omega) (fun q => by have := k18.mpr q; omega)), fun c15 => ⟨fun n18 => ⟨fun c => absurd c n18, fun _ => ⟨fun c30 => ?_, fun c30 => ?_⟩⟩, fun y18 => ⟨fun cd => ⟨fun _ => g109 (Or.inr ⟨y18, cd⟩), fun c => absurd y18 c⟩, fun cd => bad 2 D Y (by omega) (by omega) (badE y18 cd)⟩⟩⟩⟩⟩⟩
    · have nk : kwR (T 0 8) ≠ 18 := fun q => n18 (k18.mp q)
      exact g109 (Or.inl ⟨kb.1.mpr (Or.inr (by omega)), by omega⟩)
    · have nk : kwR (T 0 8) ≠ 18 := fun q => n18 (k18.mp q)
      exact bad 6 D Y (by omega) (by omega) (bad6 (kb.1.mpr (Or.inr (by omega))) n18 (by omega))
  refine b_Mod_yearStep_0 (by omega) (r_inWords (by omega) hX L9 ok.2.1 ok.1 ?_)
  rw [toI_int, zA_1, clA (z := 2412) (j := 2412) rfl (by omega), sA, hsp, iN_mul, iN_add, show (2646 : Int) + 6 * (sp : Int) = ((2646 + 6 * sp : Nat) : Int) by omega, e16, e17]
  refine ⟨inA (by omega) (by omega), fun k => ?_, fun k1 => ⟨fun k => ?_, fun k => ?_⟩⟩
  · have : opB (T 0 8) = true := by unfold opB; rw [decide_eq_true (by omega)]
    rw [this] at g42; exact g42
  · have : opB (T 0 8) = false := by unfold opB; rw [decide_eq_false (by omega)]
    rw [this] at g42; exact g42
  · have : opB (T 0 8) = true := by unfold opB; rw [decide_eq_true (by omega)]
    rw [this] at g42; exact g42
