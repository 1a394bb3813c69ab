theorem yTl_n (X : Nat → Int) (L : Nat) (C : Ch) (sp : Nat) (T Y : Ch) : yTl X L C sp [] T Y = (true, T, Y) := rfl
theorem rec_mk {Y' : Ch} {A' : Nat → Int} {sp : Nat} {n : Int} (k a b v g : Int) (e1 : Y' 1 sp = k) (e2 : Y' 2 sp = a) (e3 : Y' 3 sp = b) (e4 : Y' 4 sp = v) (e5 : Y' 5 sp = g) (ok : kOk k) (h0 : A' (2646 + 6 * sp) = kR k) (hL : k = 19 → A' (2647 + 6 * sp) = v ∧ 1 ≤ v ∧ v ≤ 99) (h1 : (k = 1 ∨ k = 3 ∨ k = 9 ∨ k = 11 ∨ k = 13 ∨ k = 14 ∨ k = 17 ∨ k = 18) → A' (2647 + 6 * sp) = a ∧ 0 ≤ a ∧ a < n) (h2 : (k = 9 ∨ k = 11 ∨ k = 14 ∨ k = 17) → A' (2648 + 6 * sp) = b ∧ 0 ≤ b ∧ b < n) (h3 : (k = 1 ∨ k = 9 ∨ k = 11 ∨ k = 17) → A' (2649 + 6 * sp) = v) (h4 : k = 9 → v ≤ 99) (h5 : (k = 9 ∨ k = 11) → 1 ≤ v ∧ v ≤ 999) (h6 : (k = 1 ∨ k = 17) → A' (2651 + 6 * sp) = g) : RYx Y' A' 2408 sp ∧ YPi Y' n sp := by
  unfold RYx YPi YT YQ
  rw [e1, e2, e3, e4, e5, show 2408 + 238 + 6 * sp + 1 = 2647 + 6 * sp by omega, show 2408 + 238 + 6 * sp + 2 = 2648 + 6 * sp by omega, show 2408 + 238 + 6 * sp + 3 = 2649 + 6 * sp by omega, show 2408 + 238 + 6 * sp + 5 = 2651 + 6 * sp by omega, show 2408 + 238 + 6 * sp = 2646 + 6 * sp by omega]
  refine ⟨⟨ok, h0, fun q => (hL q).1, fun q => (h1 q).1, fun q => (h2 q).1, h3, h6⟩, ⟨h4, fun q => ⟨(h1 (by omega)).2.1, (h2 (by omega)).2.1⟩, fun q => (h1 (by omega)).2.1⟩, h5, fun q => (hL q).2, fun q => (h1 (by omega)).2.2, ?_⟩
  by_cases q : k = 17
  · exact Or.inr (h2 (by omega)).2.2
  · exact Or.inl q
set_option maxHeartbeats 2000000 in
theorem r_yearOrder {l : Launch} {E : EnvT} {d : Nat} {K : AV → Mem → Prop} {M : Mem} {X : Nat → Int} {L sp : Nat} {p kc : Int} {C T Z Y : Ch} {A : Nat → Int} (hd : 9 ≤ d) (hX : XBn X) (L9 : L ≤ 900) (ok : OKT X L p (advT X L T) Z) (hV : VB C) (f0 : A 0 = C 0 8) (hN : NR C Z 0) (hs : sp < 60) (hY : Y 1 sp = kc) (hA : A (2646 + 6 * sp) = kR kc) (hk : kc = 3 ∨ kc = 9 ∨ kc = 11 ∨ kc = 12 ∨ kc = 13 ∨ kc = 14 ∨ kc = 15 ∨ kc = 19 ∨ kc = 21) (hy : (yTl X L C sp (STRB.getD (tlK kc) []) T Y).1 = true → ∀ (Z' : Ch) (A' : Nat → Int), ZP Z Z' → FrR (2646 + 6 * sp) A A' → SR X L p C sp (yTl X L C sp (STRB.getD (tlK kc) []) T Y).2.1 (yTl X L C sp (STRB.getD (tlK kc) []) T Y).2.2 Z' A' → K (.int (iN 1), 0) (zA M Z' A')) (hn : (yTl X L C sp (STRB.getD (tlK kc) []) T Y).1 = false → ∀ (Z' : Ch) (A' : Nat → Int), ZP Z Z' → FrR (2646 + 6 * sp) A A' → FZ (yTl X L C sp (STRB.getD (tlK kc) []) T Y).2.1 Z' → K (.int (iN 0), 0) (zA M Z' A')) : CT l E d m_Mod_yearOrder [(.ref 24, 41), (.int (iN (kR kc)), 0), (.int (iN ((2646 + 6 * sp : Nat) : Int)), 0)] (zA M Z A) K := by
  refine CT.of pn_Mod (Nat.le_of_ble_eq_true rfl) ?_
  refine b_Mod_yearOrder_0 (by omega) ?_
  rw [iN_add, iN_add, iN_add, show ((2646 + 6 * sp : Nat) : Int) + 1 = ((2647 + 6 * sp : Nat) : Int) by omega, show ((2646 + 6 * sp : Nat) : Int) + 2 = ((2648 + 6 * sp : Nat) : Int) by omega, show ((2646 + 6 * sp : Nat) : Int) + 3 = ((2649 + 6 * sp : Nat) : Int) by omega]
  have none : (kc = 12 ∨ kc = 15 ∨ kc = 21) → K (.int (iN 1), 0) (zA M Z A) := by
    intro q
    have e : yTl X L C sp (STRB.getD (tlK kc) []) T Y = (true, T, Y) := by
      have : tlK kc = 7 := by unfold tlK; rw [if_neg (by omega), if_neg (by omega), if_neg (by omega), if_neg (by omega), if_neg (by omega), if_neg (by omega)]
      rw [this, tl_1.2.2.2.2.2.2]
      rfl
    rw [e] at hy
    exact hy rfl Z A (ZP.rf _) (FrR.rf _ _) ⟨ok, rec_mk kc (Y 2 sp) (Y 3 sp) (Y 4 sp) (Y 5 sp) hY rfl rfl rfl rfl (by unfold kOk; omega) hA (fun q => absurd q (by omega)) (fun q => absurd q (by omega)) (fun q => absurd q (by omega)) (fun q => absurd q (by omega)) (fun q => absurd q (by omega)) (fun q => absurd q (by omega)) (fun q => absurd q (by omega))⟩
  have one : (kc = 3 ∨ kc = 13) → CT l E (d - 1) m_Mod_singerTo [(.ref 24, 41), (.int (iN ((2647 + 6 * sp : Nat) : Int)), 0)] (zA M Z A) (fun v16 M16 => ((((toI v16) = 0 ∨ (toI v16) = 1)) ∧ K (.int (toI v16), 0) M16)) := by
    intro q
    have tl : tlK kc = 5 := by unfold tlK; rw [if_neg (by omega), if_neg (by omega), if_neg (by omega), if_neg (by omega), if_pos (by omega)]
    rw [tl, tl_1.2.2.2.2.1] at hy hn
    refine r_singerTo (j := 2647 + 6 * sp) (by omega) hX L9 ok hV f0 hN (by omega) (fun s s1 s2 Z1 z1 ok1 => ⟨o01, ?_⟩) (fun T2 s1 Z1 A1 z1 f1 fz => ⟨z01, ?_⟩)
    · rw [y_a s1, yTl_n] at hy
      refine hy rfl Z1 _ z1 ((FrR.rf _ _).u _ (by omega) (by omega)) ⟨ok1, rec_mk kc s (Y 3 sp) (Y 4 sp) (Y 5 sp) ?_ ?_ ?_ ?_ ?_ (by unfold kOk; omega) ?_ (fun q => absurd q (by omega)) (fun _ => ⟨updP_same _ _ _, (by omega), s2⟩) (fun q => absurd q (by omega)) (fun q => absurd q (by omega)) (fun q => absurd q (by omega)) (fun q => absurd q (by omega)) (fun q => absurd q (by omega))⟩
      · simp [upd2, hY]
      · simp [upd2]
      · simp [upd2, hY]
      · simp [upd2, hY]
      · simp [upd2, hY]
      · rw [updP_ne _ _ (by omega)]; exact hA
    · rw [y_a0 s1] at hn
      exact hn rfl Z1 A1 z1 (fun i hi => f1 i (by omega)) fz
  have four : (kc = 9 ∨ kc = 11) → CT l E (d - 1) m_Mod_singerTo [(.ref 24, 41), (.int (iN ((2647 + 6 * sp : Nat) : Int)), 0)] (zA M Z A) (fun v11 M11 => (((toI v11) = 0 → ((((iN 0) = 0 ∨ (iN 0) = 1)) ∧ K (.int (iN 0), 0) M11)) ∧ (¬ (toI v11) = 0 → CT l E (d - 1) m_Mod_wantWord [(.ref 24, 41), (.ref 8, 999), (.int (iN 15), 0)] M11 (fun v12 M12 => (((toI v12) = 0 → ((((iN 0) = 0 ∨ (iN 0) = 1)) ∧ K (.int (iN 0), 0) M12)) ∧ (¬ (toI v12) = 0 → CT l E (d - 1) m_Mod_singerTo [(.ref 24, 41), (.int (iN ((2648 + 6 * sp : Nat) : Int)), 0)] M12 (fun v13 M13 => (((toI v13) = 0 → ((((iN 0) = 0 ∨ (iN 0) = 1)) ∧ K (.int (iN 0), 0) M13)) ∧ (¬ (toI v13) = 0 → ((¬ iN (kR kc) = (iN 9) → CT l E (d - 1) m_Mod_number [(.ref 24, 41), (.int (iN ((2649 + 6 * sp : Nat) : Int)), 0), (.int (iN 1), 0), (.int (iN 999), 0)] M13 (fun v14 M14 => (((toI v14) = 0 → ((((iN 0) = 0 ∨ (iN 0) = 1)) ∧ K (.int (iN 0), 0) M14)) ∧ (¬ (toI v14) = 0 → ((((iN 1) = 0 ∨ (iN 1) = 1)) ∧ K (.int (iN 1), 0) M14))))) ∧ (iN (kR kc) = (iN 9) → CT l E (d - 1) m_Mod_number [(.ref 24, 41), (.int (iN ((2649 + 6 * sp : Nat) : Int)), 0), (.int (iN 1), 0), (.int (iN 99), 0)] M13 (fun v15 M15 => (((toI v15) = 0 → ((((iN 0) = 0 ∨ (iN 0) = 1)) ∧ K (.int (iN 0), 0) M15)) ∧ (¬ (toI v15) = 0 → ((((iN 1) = 0 ∨ (iN 1) = 1)) ∧ K (.int (iN 1), 0) M15))))))))))))))) := by
    intro q
    have tl : tlK kc = 1 := by unfold tlK; rw [if_pos (by omega)]
    rw [tl, tl_1.1] at hy hn
    refine r_singerTo (j := 2647 + 6 * sp) (by omega) hX L9 ok hV f0 hN (by omega) (fun a s1 s2 Z1 z1 ok1 => ?_) (fun T2 s1 Z1 A1 z1 f1 fz => ?_)
    · rw [toI_int]
      refine ⟨fun c => absurd c (by decide +kernel), fun _ => ?_⟩
      rw [y_a s1] at hy hn
      refine r_wantWord (k := 10) (by omega) hX L9 ok1 (by omega) (by omega) (fun q2 Z2 z2 ok2 => ?_) (fun q2 Z2 z2 f2 => ?_)
      · rw [toI_int]
        refine ⟨fun c => absurd c (by decide +kernel), fun _ => ?_⟩
        rw [y_t q2, kwT_y q2] at hy hn
        rw [kwT_y q2] at ok2
        have N2 : NR C Z2 0 := fun s hs => by rw [(z1.tr z2) 2 _ (by omega)]; exact hN s hs
        refine r_singerTo (j := 2648 + 6 * sp) (by omega) hX L9 ok2 hV (by rw [updP_ne _ _ (by omega)]; exact f0) N2 (by omega) (fun b t1 t2 Z3 z3 ok3 => ?_) (fun T2 t1 Z3 A3 z3 f3 fz => ?_)
        · rw [toI_int]
          refine ⟨fun c => absurd c (by decide +kernel), fun _ => ?_⟩
          rw [y_b t1] at hy hn
          have e1 : upd2 (upd2 Y 2 sp a) 3 sp b 1 sp = kc := by rw [upd2_c _ _ (by decide), upd2_c _ _ (by decide)]; exact hY
          have num : ∀ hi : Int, hi = mstK kc → CT l E (d - 1) m_Mod_number [(.ref 24, 41), (.int (iN ((2649 + 6 * sp : Nat) : Int)), 0), (.int (iN 1), 0), (.int (iN hi), 0)] (zA M Z3 (updP (updP A (2647 + 6 * sp) a) (2648 + 6 * sp) b)) (fun v15 M15 => (((toI v15) = 0 → ((((iN 0) = 0 ∨ (iN 0) = 1)) ∧ K (.int (iN 0), 0) M15)) ∧ (¬ (toI v15) = 0 → ((((iN 1) = 0 ∨ (iN 1) = 1)) ∧ K (.int (iN 1), 0) M15)))) := by
            intro hi hh
            have hi2 : hi = 99 ∨ hi = 999 := by
              rw [hh]
              unfold mstK
              split
              · exact Or.inl rfl
              · rw [if_neg (by omega)]; exact Or.inr rfl
            have h99 : kc = 9 → hi = 99 := fun q => by rw [hh, q]; rfl
            rw [y_n (lo := 1) (hi := hi) (by rw [e1]; unfold lstK; rw [if_neg (by omega)]) (by rw [e1]; exact hh.symm)] at hy hn
            refine r_number (j := 2649 + 6 * sp) (by omega) hX L9 ok3 (by omega) (by omega) (by omega) (by omega) (by omega) (fun q4 Z4 z4 ok4 => ?_) (fun q4 Z4 z4 f4 => ?_)
            · have nu := nuT_y q4
              rw [nu.1] at ok4
              rw [nu.1] at hy
              rw [toI_int]
              refine ⟨fun c => absurd c (by decide +kernel), fun _ => ⟨o01, hy q4 Z4 _ (((z1.tr z2).tr z3).tr z4) ((((FrR.rf _ _).u _ (by omega) (by omega)).u _ (by omega) (by omega)).u _ (by omega) (by omega)) ⟨ok4, rec_mk kc a b (advT X L (advT X L (advT X L (advT X L T))) 0 5) (Y 5 sp) ?_ ?_ ?_ ?_ ?_ (by unfold kOk; omega) ?_ (fun q => absurd q (by omega)) (fun _ => ⟨?_, (by omega), s2⟩) (fun _ => ⟨?_, (by omega), t2⟩) (fun _ => updP_same _ _ _) (fun q => by have := h99 q; omega) (fun _ => ⟨nu.2.2.1, by omega⟩) (fun q => absurd q (by omega))⟩⟩⟩
              · simp [upd2, hY]
              · simp [upd2, hY]
              · simp [upd2, hY]
              · simp [upd2]
              · simp [upd2, hY]
              · rw [updP_ne _ _ (by omega), updP_ne _ _ (by omega), updP_ne _ _ (by omega)]; exact hA
              · rw [updP_ne _ _ (by omega), updP_ne _ _ (by omega), updP_same]
              · rw [updP_ne _ _ (by omega), updP_same]
            · rw [toI_int]
              exact ⟨fun _ => ⟨z01, hn q4 Z4 _ (((z1.tr z2).tr z3).tr z4) (((FrR.rf _ _).u _ (by omega) (by omega)).u _ (by omega) (by omega)) f4⟩, fun c => absurd (by decide +kernel) c⟩
          rcases q with q | q
          · refine ⟨fun c => absurd (by rw [q]; decide +kernel) c, fun _ => num 99 (by rw [q]; rfl)⟩
          · refine ⟨fun _ => num 999 (by rw [q]; rfl), fun c => absurd c (by rw [q]; decide +kernel)⟩
        · rw [toI_int]
          rw [y_b0 t1] at hn
          exact ⟨fun _ => ⟨z01, hn rfl Z3 A3 ((z1.tr z2).tr z3) (fun i hi => by rw [f3 i (by omega), updP_ne _ _ (by omega)]) fz⟩, fun c => absurd (by decide +kernel) c⟩
      · rw [toI_int]
        rw [y_t0 q2] at hn
        exact ⟨fun _ => ⟨z01, hn rfl Z2 _ (z1.tr z2) ((FrR.rf _ _).u _ (by omega) (by omega)) f2⟩, fun c => absurd (by decide +kernel) c⟩
    · rw [toI_int]
      rw [y_a0 s1] at hn
      exact ⟨fun _ => ⟨z01, hn rfl Z1 A1 z1 (fun i hi => f1 i (by omega)) fz⟩, fun c => absurd (by decide +kernel) c⟩
  rcases hk with k | k | k | k | k | k | k | k | k
  · have ek : kR kc = 6 := by rw [k]; rfl
    rw [ek] at four ⊢
    exact ⟨fun _ => one (by omega), fun c => absurd rfl c⟩
  · have ek : kR kc = 9 := by rw [k]; rfl
    rw [ek] at four ⊢
    exact ⟨fun c => absurd c (by decide +kernel), fun _ => ⟨fun c => absurd c (by decide +kernel), fun _ => ⟨fun c => absurd c (by decide +kernel), fun _ => ⟨fun _ => four (by omega), fun c => absurd rfl c⟩⟩⟩⟩
  · have ek : kR kc = 10 := by rw [k]; rfl
    rw [ek] at four ⊢
    exact ⟨fun c => absurd c (by decide +kernel), fun _ => ⟨fun c => absurd c (by decide +kernel), fun _ => ⟨fun c => absurd c (by decide +kernel), fun _ => ⟨fun c => absurd c (by decide +kernel), fun _ => ⟨fun _ => four (by omega), fun c => absurd rfl c⟩⟩⟩⟩⟩
  · have ek : kR kc = 11 := by rw [k]; rfl
    rw [ek] at four ⊢
    exact ⟨fun c => absurd c (by decide +kernel), fun _ => ⟨fun c => absurd c (by decide +kernel), fun _ => ⟨fun c => absurd c (by decide +kernel), fun _ => ⟨fun c => absurd c (by decide +kernel), fun _ => ⟨fun c => absurd c (by decide +kernel), fun _ => ⟨fun _ => ⟨o01, none (by omega)⟩, fun c => absurd rfl c⟩⟩⟩⟩⟩⟩
  · have ek : kR kc = 12 := by rw [k]; rfl
    rw [ek] at four ⊢
    exact ⟨fun c => absurd c (by decide +kernel), fun _ => ⟨fun c => absurd c (by decide +kernel), fun _ => ⟨fun c => absurd c (by decide +kernel), fun _ => ⟨fun c => absurd c (by decide +kernel), fun _ => ⟨fun c => absurd c (by decide +kernel), fun _ => ⟨fun c => absurd c (by decide +kernel), fun _ => ⟨fun _ => one (by omega), fun c => absurd rfl c⟩⟩⟩⟩⟩⟩⟩
  · have ek : kR kc = 13 := by rw [k]; rfl
    rw [ek] at four ⊢
    refine ⟨fun c => absurd c (by decide +kernel), fun _ => ⟨fun c => absurd c (by decide +kernel), fun _ => ⟨fun c => absurd c (by decide +kernel), fun _ => ⟨fun c => absurd c (by decide +kernel), fun _ => ⟨fun c => absurd c (by decide +kernel), fun _ => ⟨fun c => absurd c (by decide +kernel), fun _ => ⟨fun c => absurd c (by decide +kernel), fun _ => ⟨fun _ => ?_, fun c => absurd rfl c⟩⟩⟩⟩⟩⟩⟩⟩
    have tl : tlK kc = 4 := by unfold tlK; rw [if_neg (by omega), if_neg (by omega), if_neg (by omega), if_pos (by omega)]
    rw [tl, tl_1.2.2.2.1] at hy hn
    refine r_singerTo (j := 2647 + 6 * sp) (by omega) hX L9 ok hV f0 hN (by omega) (fun a s1 s2 Z1 z1 ok1 => ?_) (fun T2 s1 Z1 A1 z1 f1 fz => ?_)
    · rw [toI_int]
      refine ⟨fun c => absurd c (by decide +kernel), fun _ => ?_⟩
      rw [y_a s1] at hy hn
      have N1 : NR C Z1 0 := fun s hs => by rw [z1 2 _ (by omega)]; exact hN s hs
      refine r_singerTo (j := 2648 + 6 * sp) (by omega) hX L9 ok1 hV (by rw [updP_ne _ _ (by omega)]; exact f0) N1 (by omega) (fun b t1 t2 Z2 z2 ok2 => ?_) (fun T2 t1 Z2 A2 z2 f2 fz => ?_)
      · rw [toI_int]
        rw [y_b t1, yTl_n] at hy
        refine ⟨fun c => absurd c (by decide +kernel), fun _ => ⟨o01, hy rfl Z2 _ (z1.tr z2) (((FrR.rf _ _).u _ (by omega) (by omega)).u _ (by omega) (by omega)) ⟨ok2, rec_mk kc a b (Y 4 sp) (Y 5 sp) ?_ ?_ ?_ ?_ ?_ (by unfold kOk; omega) ?_ (fun q => absurd q (by omega)) (fun _ => ⟨?_, (by omega), s2⟩) (fun _ => ⟨updP_same _ _ _, (by omega), t2⟩) (fun q => absurd q (by omega)) (fun q => absurd q (by omega)) (fun q => absurd q (by omega)) (fun q => absurd q (by omega))⟩⟩⟩
        · simp [upd2, hY]
        · simp [upd2, hY]
        · simp [upd2]
        · simp [upd2, hY]
        · simp [upd2, hY]
        · rw [updP_ne _ _ (by omega), updP_ne _ _ (by omega)]; exact hA
        · rw [updP_ne _ _ (by omega), updP_same]
      · rw [toI_int]
        rw [y_b0 t1] at hn
        exact ⟨fun _ => ⟨z01, hn rfl Z2 A2 (z1.tr z2) (fun i hi => by rw [f2 i (by omega), updP_ne _ _ (by omega)]) fz⟩, fun c => absurd (by decide +kernel) c⟩
    · rw [toI_int]
      rw [y_a0 s1] at hn
      exact ⟨fun _ => ⟨z01, hn rfl Z1 A1 z1 (fun i hi => f1 i (by omega)) fz⟩, fun c => absurd (by decide +kernel) c⟩
  · have ek : kR kc = 14 := by rw [k]; rfl
    rw [ek] at four ⊢
    exact ⟨fun c => absurd c (by decide +kernel), fun _ => ⟨fun c => absurd c (by decide +kernel), fun _ => ⟨fun c => absurd c (by decide +kernel), fun _ => ⟨fun c => absurd c (by decide +kernel), fun _ => ⟨fun c => absurd c (by decide +kernel), fun _ => ⟨fun c => absurd c (by decide +kernel), fun _ => ⟨fun c => absurd c (by decide +kernel), fun _ => ⟨fun c => absurd c (by decide +kernel), fun _ => ⟨fun _ => ⟨o01, none (by omega)⟩, fun c => absurd rfl c⟩⟩⟩⟩⟩⟩⟩⟩⟩
  · have ek : kR kc = 17 := by rw [k]; rfl
    rw [ek] at four ⊢
    refine ⟨fun c => absurd c (by decide +kernel), fun _ => ⟨fun c => absurd c (by decide +kernel), fun _ => ⟨fun c => absurd c (by decide +kernel), fun _ => ⟨fun c => absurd c (by decide +kernel), fun _ => ⟨fun c => absurd c (by decide +kernel), fun _ => ⟨fun c => absurd c (by decide +kernel), fun _ => ⟨fun c => absurd c (by decide +kernel), fun _ => ⟨fun c => absurd c (by decide +kernel), fun _ => ⟨fun c => absurd c (by decide +kernel), fun _ => ⟨fun c => absurd c (by decide +kernel), fun _ => ⟨fun c => absurd c (by decide +kernel), fun _ => ⟨fun _ => ?_, fun c => absurd rfl c⟩⟩⟩⟩⟩⟩⟩⟩⟩⟩⟩⟩
    have tl : tlK kc = 6 := by unfold tlK; rw [if_neg (by omega), if_neg (by omega), if_neg (by omega), if_neg (by omega), if_neg (by omega), if_pos (by omega)]
    rw [tl, tl_1.2.2.2.2.2.1, y_n (lo := 1) (hi := 99) (by rw [hY, k]; rfl) (by rw [hY, k]; rfl)] at hy hn
    refine r_number (j := 2647 + 6 * sp) (by omega) hX L9 ok (by omega) (by omega) (by omega) (by omega) (by omega) (fun q4 Z4 z4 ok4 => ⟨o01, ?_⟩) (fun q4 Z4 z4 f4 => ⟨z01, ?_⟩)
    · have nu := nuT_y q4
      rw [nu.1] at ok4
      rw [nu.1] at hy
      refine hy q4 Z4 _ z4 ((FrR.rf _ _).u _ (by omega) (by omega)) ⟨ok4, rec_mk kc (Y 2 sp) (Y 3 sp) (advT X L T 0 5) (Y 5 sp) ?_ ?_ ?_ ?_ ?_ (by unfold kOk; omega) ?_ (fun _ => ⟨updP_same _ _ _, nu.2.2.1, nu.2.2.2⟩) (fun q => absurd q (by omega)) (fun q => absurd q (by omega)) (fun q => absurd q (by omega)) (fun q => absurd q (by omega)) (fun q => absurd q (by omega)) (fun q => absurd q (by omega))⟩
      · simp [upd2, hY]
      · simp [upd2, hY]
      · simp [upd2, hY]
      · simp [upd2]
      · simp [upd2, hY]
      · rw [updP_ne _ _ (by omega)]; exact hA
    · exact hn q4 Z4 A z4 (FrR.rf _ _) f4
  · have ek : kR kc = 19 := by rw [k]; rfl
    rw [ek] at four ⊢
    exact ⟨fun c => absurd c (by decide +kernel), fun _ => ⟨fun c => absurd c (by decide +kernel), fun _ => ⟨fun c => absurd c (by decide +kernel), fun _ => ⟨fun c => absurd c (by decide +kernel), fun _ => ⟨fun c => absurd c (by decide +kernel), fun _ => ⟨fun c => absurd c (by decide +kernel), fun _ => ⟨fun c => absurd c (by decide +kernel), fun _ => ⟨fun c => absurd c (by decide +kernel), fun _ => ⟨fun c => absurd c (by decide +kernel), fun _ => ⟨fun c => absurd c (by decide +kernel), fun _ => ⟨fun c => absurd c (by decide +kernel), fun _ => ⟨fun c => absurd c (by decide +kernel), fun _ => ⟨o01, none (by omega)⟩⟩⟩⟩⟩⟩⟩⟩⟩⟩⟩⟩⟩
