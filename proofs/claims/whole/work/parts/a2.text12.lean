theorem tl_1 : STRB.getD 1 [] = [iN 97, iN 116, iN 98, iN 110] ∧ STRB.getD 2 [] = [iN 97, iN 116, iN 98, iN 99, iN 110] ∧ STRB.getD 3 [] = [iN 97, iN 99, iN 110] ∧ STRB.getD 4 [] = [iN 97, iN 98] ∧ STRB.getD 5 [] = [iN 97] ∧ STRB.getD 6 [] = [iN 110] ∧ STRB.getD 7 [] = [] := by decide +kernel
theorem yTl_c (X : Nat → Int) (L : Nat) (C : Ch) (sp : Nat) (c : Int32) (t : List Int32) (T Y : Ch) : yTl X L C sp (c :: t) T Y = if (yP X L C sp c T Y).1 = true then yTl X L C sp t (yP X L C sp c T Y).2.1 (yP X L C sp c T Y).2.2 else yP X L C sp c T Y := rfl
theorem y_a {X : Nat → Int} {L sp : Nat} {C T Y : Ch} {t : List Int32} {s : Nat} (h : sgT (advT X L T) C (-1) = ((s : Int), advT X L T)) : yTl X L C sp (iN 97 :: t) T Y = yTl X L C sp t (advT X L T) (upd2 Y 2 sp s) := by
  have e : yP X L C sp (iN 97) T Y = (true, advT X L T, upd2 Y 2 sp s) := by
    unfold yP
    rw [if_pos rfl, h, decide_eq_true (by show (s : Int) ≠ -1; omega)]
  rw [yTl_c, e, if_pos rfl]
theorem y_a0 {X : Nat → Int} {L sp : Nat} {C T Y T2 : Ch} {t : List Int32} (h : sgT (advT X L T) C (-1) = (-1, T2)) : yTl X L C sp (iN 97 :: t) T Y = (false, T2, upd2 Y 2 sp (-1)) := by
  have e : yP X L C sp (iN 97) T Y = (false, T2, upd2 Y 2 sp (-1)) := by
    unfold yP
    rw [if_pos rfl, h, decide_eq_false (by show ¬ ((-1 : Int) ≠ -1); omega)]
  rw [yTl_c, e, if_neg (by simp)]
theorem y_b {X : Nat → Int} {L sp : Nat} {C T Y : Ch} {t : List Int32} {s : Nat} (h : sgT (advT X L T) C (-1) = ((s : Int), advT X L T)) : yTl X L C sp (iN 98 :: t) T Y = yTl X L C sp t (advT X L T) (upd2 Y 3 sp s) := by
  have e : yP X L C sp (iN 98) T Y = (true, advT X L T, upd2 Y 3 sp s) := by
    unfold yP
    rw [if_neg (by decide +kernel), if_pos rfl, h, decide_eq_true (by show (s : Int) ≠ -1; omega)]
  rw [yTl_c, e, if_pos rfl]
theorem y_b0 {X : Nat → Int} {L sp : Nat} {C T Y T2 : Ch} {t : List Int32} (h : sgT (advT X L T) C (-1) = (-1, T2)) : yTl X L C sp (iN 98 :: t) T Y = (false, T2, upd2 Y 3 sp (-1)) := by
  have e : yP X L C sp (iN 98) T Y = (false, T2, upd2 Y 3 sp (-1)) := by
    unfold yP
    rw [if_neg (by decide +kernel), if_pos rfl, h, decide_eq_false (by show ¬ ((-1 : Int) ≠ -1); omega)]
  rw [yTl_c, e, if_neg (by simp)]
theorem y_c {X : Nat → Int} {L sp : Nat} {C T Y : Ch} {t : List Int32} (h : (cmT (advT X L T)).1 = true) : yTl X L C sp (iN 99 :: t) T Y = yTl X L C sp t (cmT (advT X L T)).2 (upd2 Y 5 sp ((cmT (advT X L T)).2 0 6)) := by
  have e : yP X L C sp (iN 99) T Y = ((cmT (advT X L T)).1, (cmT (advT X L T)).2, upd2 Y 5 sp ((cmT (advT X L T)).2 0 6)) := by
    unfold yP
    rw [if_neg (by decide +kernel), if_neg (by decide +kernel), if_pos rfl]
  rw [yTl_c, e, if_pos h]
theorem y_c0 {X : Nat → Int} {L sp : Nat} {C T Y : Ch} {t : List Int32} (h : (cmT (advT X L T)).1 = false) : yTl X L C sp (iN 99 :: t) T Y = (false, (cmT (advT X L T)).2, upd2 Y 5 sp ((cmT (advT X L T)).2 0 6)) := by
  have e : yP X L C sp (iN 99) T Y = ((cmT (advT X L T)).1, (cmT (advT X L T)).2, upd2 Y 5 sp ((cmT (advT X L T)).2 0 6)) := by
    unfold yP
    rw [if_neg (by decide +kernel), if_neg (by decide +kernel), if_pos rfl]
  rw [yTl_c, e, if_neg (by rw [h]; decide), h]
theorem y_t {X : Nat → Int} {L sp : Nat} {C T Y : Ch} {t : List Int32} (h : (kwT (advT X L T) 10).1 = true) : yTl X L C sp (iN 116 :: t) T Y = yTl X L C sp t (kwT (advT X L T) 10).2 Y := by
  have e : yP X L C sp (iN 116) T Y = ((kwT (advT X L T) 10).1, (kwT (advT X L T) 10).2, Y) := by
    unfold yP
    rw [if_neg (by decide +kernel), if_neg (by decide +kernel), if_neg (by decide +kernel), if_pos rfl]
  rw [yTl_c, e, if_pos h]
theorem y_t0 {X : Nat → Int} {L sp : Nat} {C T Y : Ch} {t : List Int32} (h : (kwT (advT X L T) 10).1 = false) : yTl X L C sp (iN 116 :: t) T Y = (false, (kwT (advT X L T) 10).2, Y) := by
  have e : yP X L C sp (iN 116) T Y = ((kwT (advT X L T) 10).1, (kwT (advT X L T) 10).2, Y) := by
    unfold yP
    rw [if_neg (by decide +kernel), if_neg (by decide +kernel), if_neg (by decide +kernel), if_pos rfl]
  rw [yTl_c, e, if_neg (by rw [h]; decide), h]
theorem y_n {X : Nat → Int} {L sp : Nat} {C T Y : Ch} {lo hi : Int} (h1 : lstK (Y 1 sp) = lo) (h2 : mstK (Y 1 sp) = hi) : yTl X L C sp [iN 110] T Y = ((nuT (advT X L T) lo hi).1, (nuT (advT X L T) lo hi).2, upd2 Y 4 sp ((nuT (advT X L T) lo hi).2 0 5)) := by
  have e : yP X L C sp (iN 110) T Y = ((nuT (advT X L T) lo hi).1, (nuT (advT X L T) lo hi).2, upd2 Y 4 sp ((nuT (advT X L T) lo hi).2 0 5)) := by
    unfold yP
    rw [if_neg (by decide +kernel), if_neg (by decide +kernel), if_neg (by decide +kernel), if_neg (by decide +kernel), h1, h2]
  rw [yTl_c, e]
  by_cases c : (nuT (advT X L T) lo hi).1 = true
  · rw [if_pos c, c]; rfl
  · rw [if_neg c]
theorem r_singerTo {l : Launch} {E : EnvT} {d : Nat} {K : AV → Mem → Prop} {M : Mem} {X : Nat → Int} {L j : Nat} {p : Int} {C T Z : Ch} {A : Nat → Int} (hd : 8 ≤ d) (hX : XBn X) (L9 : L ≤ 900) (ok : OKT X L p T Z) (hV : VB C) (f0 : A 0 = C 0 8) (hN : NR C Z 0) (hj : j < 3612) (hy : ∀ s : Nat, sgT T C (-1) = ((s : Int), T) → (s : Int) < C 0 8 → ∀ Z', ZP Z Z' → OKT X L p (advT X L T) Z' → K (.int (iN 1), 0) (zA M Z' (updP A j s))) (hn : ∀ T2, sgT T C (-1) = (-1, T2) → ∀ (Z' : Ch) (A' : Nat → Int), ZP Z Z' → (∀ i, i ≠ j → A' i = A i) → FZ T2 Z' → K (.int (iN 0), 0) (zA M Z' A')) : CT l E d m_Mod_singerTo [(.ref 24, 41), (.int (iN (j : Int)), 0)] (zA M Z A) K := by
  refine CT.of pn_Mod (Nat.le_of_ble_eq_true rfl) ?_
  refine b_Mod_singerTo_0 (by omega) ?_
  rw [zA_1, clA (z := 0) (j := 0) rfl (by omega), f0]
  refine ⟨inA (by omega) (by omega), r_oldOne (b := 0) (j := j) (by omega) hX L9 ok hV hN (by omega) hj (fun c1 c2 Z2 z2 ok2 => ⟨o01, ?_⟩) (fun c1 c2 Z2 z2 f2 => ⟨z01, ?_⟩) (fun c1 Z2 z2 f2 => ⟨z01, ?_⟩)⟩
  · obtain ⟨s, hs, hs8⟩ : ∃ s : Nat, findC C (lI (T 0 9)) = s ∧ (s : Int) < C 0 8 := by
      rcases findC_s hV (lI (T 0 9)) with e | e
      · exact absurd e c2
      · exact e
    rw [hs]
    refine hy s ?_ hs8 Z2 z2 ok2
    unfold sgT
    rw [if_pos c1, if_neg c2, if_neg c2, hs]
  · refine hn (rfT T 3) ?_ Z2 _ z2 (fun i hi => updP_ne _ _ hi) f2
    unfold sgT
    rw [if_pos c1, if_pos c2]
  · refine hn (nmT T).2 ?_ Z2 A z2 (fun _ _ => rfl) f2
    unfold sgT
    rw [if_neg (by rw [c1]; decide)]
/-- the record of a step, but for its partner -/
def RYx (Y : Ch) (A : Nat → Int) (B i : Nat) : Prop := kOk (Y 1 i) ∧ A (B + 238 + 6 * i) = kR (Y 1 i) ∧ (Y 1 i = 19 → A (B + 238 + 6 * i + 1) = Y 4 i) ∧ ((Y 1 i = 1 ∨ Y 1 i = 3 ∨ Y 1 i = 9 ∨ Y 1 i = 11 ∨ Y 1 i = 13 ∨ Y 1 i = 14 ∨ Y 1 i = 17 ∨ Y 1 i = 18) → A (B + 238 + 6 * i + 1) = Y 2 i) ∧ ((Y 1 i = 9 ∨ Y 1 i = 11 ∨ Y 1 i = 14 ∨ Y 1 i = 17) → A (B + 238 + 6 * i + 2) = Y 3 i) ∧ ((Y 1 i = 1 ∨ Y 1 i = 9 ∨ Y 1 i = 11 ∨ Y 1 i = 17) → A (B + 238 + 6 * i + 3) = Y 4 i) ∧ ((Y 1 i = 1 ∨ Y 1 i = 17) → A (B + 238 + 6 * i + 5) = Y 5 i)
/-- only the record from j on differs -/
def FrR (j : Nat) (A A' : Nat → Int) : Prop := ∀ i, ¬ (j ≤ i ∧ i < j + 6) → A' i = A i
theorem FrR.rf (j : Nat) (A : Nat → Int) : FrR j A A := fun _ _ => rfl
theorem FrR.tr {j : Nat} {A A' A'' : Nat → Int} (h : FrR j A A') (h' : FrR j A' A'') : FrR j A A'' := fun i q => by rw [h' i q, h i q]
theorem FrR.u {j k : Nat} {A A' : Nat → Int} (h : FrR j A A') (v : Int) (h1 : j ≤ k) (h2 : k < j + 6) : FrR j A (updP A' k v) := fun i q => by
  rw [updP_ne _ _ (by omega)]
  exact h i q
/-- what a step that has been read keeps: T3, Y3 the class's token and years, Z3, A3 the reference's -/
def SR (X : Nat → Int) (L : Nat) (p : Int) (C : Ch) (sp : Nat) (T3 Y3 Z3 : Ch) (A3 : Nat → Int) : Prop := OKT X L p (advT X L T3) Z3 ∧ RYx Y3 A3 2408 sp ∧ YPi Y3 (C 0 8) sp
