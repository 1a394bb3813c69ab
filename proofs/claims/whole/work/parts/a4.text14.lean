theorem r_test94 {l : Launch} {E : EnvT} {d : Nat} {K : AV → Mem → Prop} {M : Mem} {X : Nat → Int} {L sp : Nat} {p kc a b : Int} {C T Z Y : Ch} {A : Nat → Int} (hd : 9 ≤ d) (hX : XBn X) (L9 : L ≤ 900) (ok : OKT X L p (advT X L T) Z) (hs : sp < 60) (hk : kc = 17 ∨ kc = 1) (y1 : Y 1 sp = kc) (y2 : Y 2 sp = a) (y3 : Y 3 sp = b) (ha : 0 ≤ a ∧ a < C 0 8) (hb : kc = 17 → 0 ≤ b ∧ b < C 0 8) (hA : A (2646 + 6 * sp) = kR kc) (hA1 : A (2647 + 6 * sp) = a) (hA2 : kc = 17 → A (2648 + 6 * sp) = b) (hy : (yTl X L C sp [iN 99, iN 110] T Y).1 = true → ∀ (Z' : Ch) (A' : Nat → Int), ZP Z Z' → FrR (2646 + 6 * sp) A A' → SR X L p C sp (yTl X L C sp [iN 99, iN 110] T Y).2.1 (yTl X L C sp [iN 99, iN 110] T Y).2.2 Z' A' → K (.int (iN 1), 0) (zA M Z' A')) (hn : (yTl X L C sp [iN 99, iN 110] T Y).1 = false → ∀ (Z' : Ch) (A' : Nat → Int), ZP Z Z' → FrR (2646 + 6 * sp) A A' → FZ (yTl X L C sp [iN 99, iN 110] T Y).2.1 Z' → K (.int (iN 0), 0) (zA M Z' A')) : G l E d m_Mod_test 94 [(0, (.ref 24, 41)), (1, (.int (iN ((2646 + 6 * sp : Nat) : Int)), 0)), (2, (.int (iN (kwR kc)), 0))] [] (zA M Z A) K := by
  have g127 : advT X L T 0 3 = 3 → advT X L T 0 6 ≠ 59 → G l E d m_Mod_test 127 [(0, (.ref 24, 41)), (1, (.int (iN ((2646 + 6 * sp : Nat) : Int)), 0)), (2, (.int (iN (kwR kc)), 0))] [] (zA M Z A) K := by
    intro k3 k59
    have cm : cmT (advT X L T) = (true, advT X L T) := by
      unfold cmT
      rw [if_pos ⟨k3, k59⟩]
    have c1 : (cmT (advT X L T)).1 = true := by rw [cm]
    rw [y_c c1, cm] at hy hn
    dsimp only at hy hn
    have zz := (ok.1.2.2.2.2.2.1 k3).1
    have a6 := ok.2.1.2.2.2.2.2.2.1
    refine b_Mod_test_127 (by omega) ?_
    rw [iN_add, iN_add, show ((2646 + 6 * sp : Nat) : Int) + 5 = ((2651 + 6 * sp : Nat) : Int) by omega, show ((2646 + 6 * sp : Nat) : Int) + 3 = ((2649 + 6 * sp : Nat) : Int) by omega, zA_0, zz, clA (z := ((2651 + 6 * sp : Nat) : Int)) (j := 2651 + 6 * sp) rfl (by omega), iN_small (z := advT X L T 0 6) (by omega) (by omega), zA_u]
    refine ⟨inA (by omega) (by omega), r_next (by omega) hX L9 ok (by rw [k3]; decide) (fun Z1 z1 ok1 => ?_)⟩
    have num : ∀ hi : Int, hi = mstK kc → CT l E (d - 1) m_Mod_number [(.ref 24, 41), (.int (iN ((2649 + 6 * sp : Nat) : Int)), 0), (.int (iN 0), 0), (.int (iN hi), 0)] (zA M Z1 (updP A (2651 + 6 * sp) (advT X L T 0 6))) (fun v3 M3 => ((((toI v3) = 0 ∨ (toI v3) = 1)) ∧ K (.int (toI v3), 0) M3)) := by
      intro hi hh
      have hi2 : hi = 9999 ∨ hi = 999 := by
        rw [hh]
        unfold mstK
        rcases hk with k | k
        · rw [if_neg (by omega), if_neg (by omega)]; exact Or.inr rfl
        · rw [if_neg (by omega), if_pos (by omega)]; exact Or.inl rfl
      have e1 : upd2 Y 5 sp (advT X L T 0 6) 1 sp = kc := by rw [upd2_c _ _ (by decide)]; exact y1
      rw [y_n (lo := 0) (hi := hi) (by rw [e1]; unfold lstK; rw [if_pos (by omega)]) (by rw [e1]; exact hh.symm)] at hy hn
      refine r_number (j := 2649 + 6 * sp) (by omega) hX L9 ok1 (by omega) (by omega) (by omega) (by omega) (by omega) (fun q4 Z4 z4 ok4 => ⟨o01, ?_⟩) (fun q4 Z4 z4 f4 => ⟨z01, ?_⟩)
      · have nu := nuT_y q4
        rw [nu.1] at ok4
        rw [nu.1] at hy
        refine hy q4 Z4 _ (z1.tr z4) (((FrR.rf _ _).u _ (by omega) (by omega)).u _ (by omega) (by omega)) ⟨ok4, rec_mk kc a b (advT X L (advT X L T) 0 5) (advT X L T 0 6) ?_ ?_ ?_ ?_ ?_ (by unfold kOk; omega) ?_ (fun q => absurd q (by omega)) (fun _ => ⟨?_, ha⟩) (fun q => ⟨?_, hb (by omega)⟩) (fun _ => updP_same _ _ _) (fun q => absurd q (by omega)) (fun q => absurd q (by omega)) (fun _ => ?_)⟩
        · simp [upd2, y1]
        · simp [upd2, y2]
        · simp [upd2, y3]
        · simp [upd2]
        · simp [upd2]
        · rw [updP_ne _ _ (by omega), updP_ne _ _ (by omega)]; exact hA
        · rw [updP_ne _ _ (by omega), updP_ne _ _ (by omega)]; exact hA1
        · rw [updP_ne _ _ (by omega), updP_ne _ _ (by omega)]; exact hA2 (by omega)
        · rw [updP_ne _ _ (by omega), updP_same]
      · exact hn q4 Z4 _ (z1.tr z4) ((FrR.rf _ _).u _ (by omega) (by omega)) f4
    rcases hk with k | k
    · rw [k] at num ⊢
      exact ⟨fun c => absurd (by decide +kernel) c, fun _ => num 999 rfl⟩
    · rw [k] at num ⊢
      exact ⟨fun _ => num 9999 rfl, fun c => absurd c (by decide +kernel)⟩
  refine b_Mod_test_94 (by omega) (r_isSign (c := 60) (by omega) ok (by omega) (by omega) ?_)
  rw [toI_int, b2i_z, decide_eq_false_iff_not]
  refine ⟨fun c => ?_, fun c1 => r_isSign (c := 62) (by omega) ok (by omega) (by omega) ?_⟩
  · have c := Classical.not_not.mp c
    exact g127 c.1 (by omega)
  rw [toI_int, b2i_z, decide_eq_false_iff_not]
  refine ⟨fun c => ?_, fun c2 => r_isSign (c := 61) (by omega) ok (by omega) (by omega) ?_⟩
  · have c := Classical.not_not.mp c
    exact g127 c.1 (by omega)
  rw [toI_int, b2i_z, decide_eq_false_iff_not]
  refine ⟨fun c => ?_, fun c3 => r_fails (by omega) ok (by omega) (by omega) (fun Z1 z1 f1 => ⟨z01, ?_⟩)⟩
  · have c := Classical.not_not.mp c
    exact g127 c.1 (by omega)
  have cm : cmT (advT X L T) = (false, rfT (advT X L T) 2) := by
    unfold cmT
    rw [if_neg (fun q => ?_)]
    have := (ok.1.2.2.2.2.2.1 q.1).2
    have q1 := q.1
    have q2 := q.2
    omega
  have c0 : (cmT (advT X L T)).1 = false := by rw [cm]
  rw [y_c0 c0, cm] at hn
  exact hn rfl Z1 A z1 (FrR.rf _ _) f1
def yWT (X : Nat → Int) (L : Nat) (C : Ch) (sp : Nat) (T Y : Ch) : PS := if (yW X L sp T Y).1 = true then yTl X L C sp (STRB.getD (tlK ((yW X L sp T Y).2.2 1 sp)) []) (yW X L sp T Y).2.1 (yW X L sp T Y).2.2 else (false, (yW X L sp T Y).2.1, (yW X L sp T Y).2.2)
set_option maxHeartbeats 2000000 in
theorem r_test {l : Launch} {E : EnvT} {d : Nat} {K : AV → Mem → Prop} {M : Mem} {X : Nat → Int} {L sp : Nat} {p : Int} {C T Z Y : Ch} {A : Nat → Int} (hd : 10 ≤ d) (hX : XBn X) (L9 : L ≤ 900) (ok : OKT X L p (advT X L T) Z) (hV : VB C) (f0 : A 0 = C 0 8) (hN : NR C Z 0) (hs : sp < 60) (hy : (yWT X L C sp T Y).1 = true → ∀ (Z' : Ch) (A' : Nat → Int), ZP Z Z' → FrR (2646 + 6 * sp) A A' → SR X L p C sp (yWT X L C sp T Y).2.1 (yWT X L C sp T Y).2.2 Z' A' → K (.int (iN 1), 0) (zA M Z' A')) (hn : (yWT X L C sp T Y).1 = false → ∀ (Z' : Ch) (A' : Nat → Int), ZP Z Z' → FrR (2646 + 6 * sp) A A' → FZ (yWT X L C sp T Y).2.1 Z' → K (.int (iN 0), 0) (zA M Z' A')) : CT l E d m_Mod_test [(.ref 24, 41), (.int (iN ((2646 + 6 * sp : Nat) : Int)), 0)] (zA M Z A) K := by
  refine CT.of pn_Mod (Nat.le_of_ble_eq_true rfl) ?_
  have a8 := ok.2.1.2.2.2.2.2.2.2.2.1
  have kr := kwR_rng a8.1 a8.2
  have e20 : iN (kwR (advT X L T 0 8)) = iN 20 ↔ advT X L T 0 8 = 17 := (iN_eq (by omega) (by omega) (by omega) (by omega)).trans (kwR_inj (y := 17) a8.1 a8.2 (by omega) (by omega))
  have e4 : iN (kwR (advT X L T 0 8)) = iN 4 ↔ advT X L T 0 8 = 1 := (iN_eq (by omega) (by omega) (by omega) (by omega)).trans (kwR_inj (y := 1) a8.1 a8.2 (by omega) (by omega))
  have e21 : iN (kwR (advT X L T 0 8)) = iN 21 ↔ advT X L T 0 8 = 18 := (iN_eq (by omega) (by omega) (by omega) (by omega)).trans (kwR_inj (y := 18) a8.1 a8.2 (by omega) (by omega))
  unfold yWT at hy hn
  have go : (advT X L T 0 8 = 17 ∨ advT X L T 0 8 = 1 ∨ advT X L T 0 8 = 18) → G l E d m_Mod_test 30 [(0, (.ref 24, 41)), (1, (.int (iN ((2646 + 6 * sp : Nat) : Int)), 0)), (2, (.int (iN (kwR (advT X L T 0 8))), 0))] [] (zA M Z A) K := by
    intro kk
    have w : yW X L sp T Y = (true, advT X L T, upd2 Y 1 sp (advT X L T 0 8)) := by
      unfold yW
      rw [if_pos kk]
    rw [w, if_pos rfl] at hy hn
    dsimp only at hy hn
    rw [upd2_same] at hy hn
    have k4 : advT X L T 0 3 ≠ 4 := by have := (ok.wd (by omega)).1; omega
    generalize hk : advT X L T 0 8 = k2 at kk hy hn e20 e4 e21 a8 kr ⊢
    have e16 : 1600 + kwR k2 = kR k2 := by
      rcases kk with q | q | q
      all_goals (rw [q]; decide +kernel)
    have kb : 0 ≤ kR k2 ∧ kR k2 ≤ 1621 := by omega
    refine b_Mod_test_30 (by omega) ?_
    rw [iN_add, e16, iN_small (by omega) (by omega), clA (z := ((2646 + 6 * sp : Nat) : Int)) (j := 2646 + 6 * sp) rfl (by omega), zA_u, iN_add, show ((2646 + 6 * sp : Nat) : Int) + 1 = ((2647 + 6 * sp : Nat) : Int) by omega]
    refine ⟨inA (by omega) (by omega), r_next (by omega) hX L9 ok k4 (fun Z1 z1 ok1 => ?_)⟩
    have N1 : NR C Z1 0 := fun s hs => by rw [z1 2 _ (by omega)]; exact hN s hs
    generalize advT X L T = T1 at hy hn ok1
    have fr0 : FrR (2646 + 6 * sp) A (updP A (2646 + 6 * sp) (kR k2)) := (FrR.rf _ _).u _ (by omega) (by omega)
    have tl : STRB.getD (tlK k2) [] = iN 97 :: (if k2 = 17 then [iN 116, iN 98, iN 99, iN 110] else if k2 = 1 then [iN 99, iN 110] else []) := by
      rcases kk with q | q | q
      all_goals (rw [q]; decide +kernel)
    rw [tl] at hy hn
    refine r_singerTo (j := 2647 + 6 * sp) (by omega) hX L9 ok1 hV (by rw [updP_ne _ _ (by omega)]; exact f0) N1 (by omega) (fun s s1 s2 Z2 z2 ok2 => ?_) (fun T2 s1 Z2 A2 z2 f2 fz => ?_)
    · rw [y_a s1] at hy hn
      rw [toI_int]
      have fr1 : FrR (2646 + 6 * sp) A (updP (updP A (2646 + 6 * sp) (kR k2)) (2647 + 6 * sp) s) := fr0.u _ (by omega) (by omega)
      refine ⟨fun _ => ⟨fun c => ?_, fun c => ?_⟩, fun c => absurd c (by decide +kernel)⟩
      · have n18 : k2 ≠ 18 := fun q => c (e21.mpr q)
        refine b_Mod_test_65 (by omega) ?_
        rw [e20]
        refine ⟨fun n17 => ?_, fun y17 => ?_⟩
        · have y1' : k2 = 1 := (by omega)
          rw [if_neg n17, if_pos y1'] at hy hn
          refine r_test94 (a := (s : Int)) (b := Y 3 sp) (T := advT X L T1) (Y := upd2 (upd2 Y 1 sp k2) 2 sp s) (by omega) hX L9 ok2 hs (Or.inr y1') (by simp [upd2]) (by simp [upd2]) (by simp [upd2]) ⟨(by omega), s2⟩ (fun q => absurd q n17) (by rw [updP_ne _ _ (by omega), updP_same]) (updP_same _ _ _) (fun q => absurd q n17) (fun q Z3 A3 z3 f3 sr => hy q Z3 A3 ((z1.tr z2).tr z3) (fr1.tr f3) sr) (fun q Z3 A3 z3 f3 fz => hn q Z3 A3 ((z1.tr z2).tr z3) (fr1.tr f3) fz)
        · rw [if_pos y17] at hy hn
          refine r_wantWord (k := 10) (by omega) hX L9 ok2 (by omega) (by omega) (fun q2 Z3 z3 ok3 => ?_) (fun q2 Z3 z3 f3 => ?_)
          · rw [y_t q2, kwT_y q2] at hy hn
            rw [kwT_y q2] at ok3
            rw [toI_int, iN_add, show ((2646 + 6 * sp : Nat) : Int) + 2 = ((2648 + 6 * sp : Nat) : Int) by omega]
            refine ⟨fun c => absurd c (by decide +kernel), fun _ => ?_⟩
            have N3 : NR C Z3 0 := fun s hs => by rw [((z1.tr z2).tr z3) 2 _ (by omega)]; exact hN s hs
            refine r_singerTo (j := 2648 + 6 * sp) (by omega) hX L9 ok3 hV (by rw [updP_ne _ _ (by omega), updP_ne _ _ (by omega)]; exact f0) N3 (by omega) (fun b t1 t2 Z4 z4 ok4 => ?_) (fun T2 t1 Z4 A4 z4 f4 fz => ?_)
            · rw [y_b t1] at hy hn
              rw [toI_int]
              have fr2 : FrR (2646 + 6 * sp) A (updP (updP (updP A (2646 + 6 * sp) (kR k2)) (2647 + 6 * sp) s) (2648 + 6 * sp) b) := fr1.u _ (by omega) (by omega)
              refine ⟨fun _ => ?_, fun c => absurd c (by decide +kernel)⟩
              refine r_test94 (a := (s : Int)) (b := (b : Int)) (T := advT X L (advT X L (advT X L T1))) (Y := upd2 (upd2 (upd2 Y 1 sp k2) 2 sp s) 3 sp b) (by omega) hX L9 ok4 hs (Or.inl y17) (by simp [upd2]) (by simp [upd2]) (by simp [upd2]) ⟨(by omega), s2⟩ (fun _ => ⟨(by omega), t2⟩) (by rw [updP_ne _ _ (by omega), updP_ne _ _ (by omega), updP_same]) (by rw [updP_ne _ _ (by omega), updP_same]) (fun _ => updP_same _ _ _) (fun q Z5 A5 z5 f5 sr => hy q Z5 A5 ((((z1.tr z2).tr z3).tr z4).tr z5) (fr2.tr f5) sr) (fun q Z5 A5 z5 f5 fz => hn q Z5 A5 ((((z1.tr z2).tr z3).tr z4).tr z5) (fr2.tr f5) fz)
            · rw [y_b0 t1] at hn
              rw [toI_int]
              exact ⟨fun c => absurd (by decide +kernel) c, fun _ => ⟨z01, hn rfl Z4 A4 (((z1.tr z2).tr z3).tr z4) (fun i hi => by rw [f4 i (by omega)]; exact fr1 i hi) fz⟩⟩
          · rw [y_t0 q2] at hn
            rw [toI_int]
            exact ⟨fun _ => ⟨z01, hn rfl Z3 _ ((z1.tr z2).tr z3) fr1 f3⟩, fun c => absurd (by decide +kernel) c⟩
      · have y18 := e21.mp c
        rw [if_neg (by omega), if_neg (by omega), yTl_n] at hy
        refine ⟨o01, hy rfl Z2 _ (z1.tr z2) fr1 ⟨ok2, rec_mk k2 s (Y 3 sp) (Y 4 sp) (Y 5 sp) ?_ ?_ ?_ ?_ ?_ (by unfold kOk; omega) ?_ (fun q => absurd q (by omega)) (fun _ => ⟨updP_same _ _ _, (by omega), s2⟩) (fun q => absurd q (by omega)) (fun q => absurd q (by omega)) (fun q => absurd q (by omega)) (fun q => absurd q (by omega)) (fun q => absurd q (by omega))⟩⟩
        · simp [upd2]
        · simp [upd2]
        · simp [upd2]
        · simp [upd2]
        · simp [upd2]
        · rw [updP_ne _ _ (by omega), updP_same]
    · rw [y_a0 s1] at hn
      rw [toI_int]
      exact ⟨fun c => absurd (by decide +kernel) c, fun _ => ⟨z01, hn rfl Z2 A2 (z1.tr z2) (fun i hi => by rw [f2 i (by omega)]; exact fr0 i hi) fz⟩⟩
  refine b_Mod_test_0 (by omega) (r_inWords (by omega) hX L9 ok.2.1 ok.1 ?_)
  rw [toI_int, e20, e4, e21]
  refine ⟨fun k => go (by omega), fun k1 => ⟨fun k => go (by omega), fun k2 => ⟨fun k => go (by omega), fun k3 => r_fails (by omega) ok (by omega) (by omega) (fun Z1 z1 f1 => ⟨z01, ?_⟩)⟩⟩⟩
  have w : yW X L sp T Y = (false, rfT (advT X L T) 2, upd2 Y 1 sp (advT X L T 0 8)) := by
    unfold yW
    rw [if_neg (by omega)]
  rw [w, if_neg (by simp)] at hn
  exact hn rfl Z1 A z1 (FrR.rf _ _) f1
