abbrev QS : Type := Bool × Ch × Ch × Ch
def tlK (k : Int) : Nat := if k = 9 ∨ k = 11 then 1 else if k = 17 then 2 else if k = 1 then 3 else if k = 14 then 4 else if k = 3 ∨ k = 13 ∨ k = 18 then 5 else if k = 19 then 6 else 7
def begB (k : Int) : Bool := decide (k = 3 ∨ k = 9 ∨ (11 ≤ k ∧ k ≤ 16) ∨ k = 19 ∨ k = 21)
def lstK (k : Int) : Int := if k = 17 ∨ k = 1 then 0 else 1
def mstK (k : Int) : Int := if k = 9 ∨ k = 19 then 99 else if k = 1 then 9999 else 999
theorem c_tailOf {l : Launch} {E : EnvT} {d : Nat} {K : AV → Mem → Prop} {M : Mem} {k : Int} (hd : 1 ≤ d) (k1 : -1 ≤ k) (k2 : k ≤ 60) (h : K (.ref (tlK k), 999) M) : CT l E d m_YReader_tailOf [(.int (iN k), 0)] M K := by
  refine CT.of pn_YReader (Nat.le_of_ble_eq_true rfl) ?_
  refine b_YReader_tailOf_0 hd ?_
  have ek : ∀ j : Int, -100 ≤ j → j ≤ 100 → (iN k = iN j ↔ k = j) := fun j j1 j2 => iN_eq (by omega) (by omega) (by omega) (by omega)
  rw [ek 1 (by omega) (by omega), ek 2 (by omega) (by omega), ek 3 (by omega) (by omega), ek 4 (by omega) (by omega), ek 5 (by omega) (by omega), ek 6 (by omega) (by omega), ek 7 (by omega) (by omega), ek 8 (by omega) (by omega), ek 9 (by omega) (by omega), ek 10 (by omega) (by omega), ek 11 (by omega) (by omega), ek 12 (by omega) (by omega), ek 13 (by omega) (by omega), ek 14 (by omega) (by omega), ek 15 (by omega) (by omega), ek 16 (by omega) (by omega), ek 17 (by omega) (by omega), ek 18 (by omega) (by omega), ek 19 (by omega) (by omega)]
  exact ⟨fun e => (by rw [e, show tlK (1 : Int) = 3 from by decide] at h; exact h), fun n1 => ⟨fun e => (by rw [e, show tlK (2 : Int) = 7 from by decide] at h; exact h), fun n2 => ⟨fun e => (by rw [e, show tlK (3 : Int) = 5 from by decide] at h; exact h), fun n3 => ⟨fun e => (by rw [e, show tlK (4 : Int) = 7 from by decide] at h; exact h), fun n4 => ⟨fun e => (by rw [e, show tlK (5 : Int) = 7 from by decide] at h; exact h), fun n5 => ⟨fun e => (by rw [e, show tlK (6 : Int) = 7 from by decide] at h; exact h), fun n6 => ⟨fun e => (by rw [e, show tlK (7 : Int) = 7 from by decide] at h; exact h), fun n7 => ⟨fun e => (by rw [e, show tlK (8 : Int) = 7 from by decide] at h; exact h), fun n8 => ⟨fun e => (by rw [e, show tlK (9 : Int) = 1 from by decide] at h; exact h), fun n9 => ⟨fun e => (by rw [e, show tlK (10 : Int) = 7 from by decide] at h; exact h), fun n10 => ⟨fun e => (by rw [e, show tlK (11 : Int) = 1 from by decide] at h; exact h), fun n11 => ⟨fun e => (by rw [e, show tlK (12 : Int) = 7 from by decide] at h; exact h), fun n12 => ⟨fun e => (by rw [e, show tlK (13 : Int) = 5 from by decide] at h; exact h), fun n13 => ⟨fun e => (by rw [e, show tlK (14 : Int) = 4 from by decide] at h; exact h), fun n14 => ⟨fun e => (by rw [e, show tlK (15 : Int) = 7 from by decide] at h; exact h), fun n15 => ⟨fun e => (by rw [e, show tlK (16 : Int) = 7 from by decide] at h; exact h), fun n16 => ⟨fun e => (by rw [e, show tlK (17 : Int) = 2 from by decide] at h; exact h), fun n17 => ⟨fun e => (by rw [e, show tlK (18 : Int) = 5 from by decide] at h; exact h), fun n18 => ⟨fun e => (by rw [e, show tlK (19 : Int) = 6 from by decide] at h; exact h), fun n19 => (by rw [show tlK k = 7 by unfold tlK; rw [if_neg (by omega), if_neg (by omega), if_neg (by omega), if_neg (by omega), if_neg (by omega), if_neg (by omega)]] at h; exact h)⟩⟩⟩⟩⟩⟩⟩⟩⟩⟩⟩⟩⟩⟩⟩⟩⟩⟩⟩
theorem c_beginsStep {l : Launch} {E : EnvT} {d : Nat} {K : AV → Mem → Prop} {M : Mem} {k : Int} (hd : 1 ≤ d) (k1 : -1 ≤ k) (k2 : k ≤ 60) (h : K (.int (iN (b2i (begB k))), 0) M) : CT l E d m_YReader_beginsStep [(.int (iN k), 0)] M K := by
  refine CT.of pn_YReader (Nat.le_of_ble_eq_true rfl) ?_
  refine b_YReader_beginsStep_0 hd ?_
  have ek : ∀ j : Int, -100 ≤ j → j ≤ 100 → (iN k = iN j ↔ k = j) := fun j j1 j2 => iN_eq (by omega) (by omega) (by omega) (by omega)
  rw [ek 3 (by omega) (by omega), ek 4 (by omega) (by omega), ek 5 (by omega) (by omega), ek 6 (by omega) (by omega), ek 7 (by omega) (by omega), ek 8 (by omega) (by omega), ek 9 (by omega) (by omega), ek 10 (by omega) (by omega), ek 11 (by omega) (by omega), ek 12 (by omega) (by omega), ek 13 (by omega) (by omega), ek 14 (by omega) (by omega), ek 15 (by omega) (by omega), ek 16 (by omega) (by omega), ek 17 (by omega) (by omega), ek 18 (by omega) (by omega), ek 19 (by omega) (by omega), ek 20 (by omega) (by omega), ek 21 (by omega) (by omega)]
  exact ⟨fun e => ⟨o01, (by rw [e, show begB (3 : Int) = true from by decide] at h; exact h)⟩, fun n3 => ⟨fun e => ⟨z01, (by rw [e, show begB (4 : Int) = false from by decide] at h; exact h)⟩, fun n4 => ⟨fun e => ⟨z01, (by rw [e, show begB (5 : Int) = false from by decide] at h; exact h)⟩, fun n5 => ⟨fun e => ⟨z01, (by rw [e, show begB (6 : Int) = false from by decide] at h; exact h)⟩, fun n6 => ⟨fun e => ⟨z01, (by rw [e, show begB (7 : Int) = false from by decide] at h; exact h)⟩, fun n7 => ⟨fun e => ⟨z01, (by rw [e, show begB (8 : Int) = false from by decide] at h; exact h)⟩, fun n8 => ⟨fun e => ⟨o01, (by rw [e, show begB (9 : Int) = true from by decide] at h; exact h)⟩, fun n9 => ⟨fun e => ⟨z01, (by rw [e, show begB (10 : Int) = false from by decide] at h; exact h)⟩, fun n10 => ⟨fun e => ⟨o01, (by rw [e, show begB (11 : Int) = true from by decide] at h; exact h)⟩, fun n11 => ⟨fun e => ⟨o01, (by rw [e, show begB (12 : Int) = true from by decide] at h; exact h)⟩, fun n12 => ⟨fun e => ⟨o01, (by rw [e, show begB (13 : Int) = true from by decide] at h; exact h)⟩, fun n13 => ⟨fun e => ⟨o01, (by rw [e, show begB (14 : Int) = true from by decide] at h; exact h)⟩, fun n14 => ⟨fun e => ⟨o01, (by rw [e, show begB (15 : Int) = true from by decide] at h; exact h)⟩, fun n15 => ⟨fun e => ⟨o01, (by rw [e, show begB (16 : Int) = true from by decide] at h; exact h)⟩, fun n16 => ⟨fun e => ⟨z01, (by rw [e, show begB (17 : Int) = false from by decide] at h; exact h)⟩, fun n17 => ⟨fun e => ⟨z01, (by rw [e, show begB (18 : Int) = false from by decide] at h; exact h)⟩, fun n18 => ⟨fun e => ⟨o01, (by rw [e, show begB (19 : Int) = true from by decide] at h; exact h)⟩, fun n19 => ⟨fun e => ⟨z01, (by rw [e, show begB (20 : Int) = false from by decide] at h; exact h)⟩, fun n20 => ⟨fun e => ⟨o01, (by rw [e, show begB (21 : Int) = true from by decide] at h; exact h)⟩, fun n21 => ⟨z01, (by rw [show begB k = false from decide_eq_false (by omega)] at h; exact h)⟩⟩⟩⟩⟩⟩⟩⟩⟩⟩⟩⟩⟩⟩⟩⟩⟩⟩⟩⟩
theorem c_leastOf {l : Launch} {E : EnvT} {d : Nat} {K : AV → Mem → Prop} {M : Mem} {k : Int} (hd : 1 ≤ d) (k1 : -1 ≤ k) (k2 : k ≤ 60) (h : K (.int (iN (lstK k)), 0) M) : CT l E d m_YReader_leastOf [(.int (iN k), 0)] M K := by
  refine CT.of pn_YReader (Nat.le_of_ble_eq_true rfl) ?_
  refine b_YReader_leastOf_0 hd ?_
  unfold lstK at h
  rw [iN_eq (by omega) (by omega) (by omega) (by omega), iN_eq (by omega) (by omega) (by omega) (by omega)]
  refine ⟨fun c => ?_, fun c => ⟨fun c2 => ?_, fun c2 => ?_⟩⟩
  · rw [if_pos (by omega)] at h; exact h
  · rw [if_neg (by omega)] at h; exact h
  · rw [if_pos (by omega)] at h; exact h
theorem c_mostOf {l : Launch} {E : EnvT} {d : Nat} {K : AV → Mem → Prop} {M : Mem} {k : Int} (hd : 1 ≤ d) (k1 : -1 ≤ k) (k2 : k ≤ 60) (h : K (.int (iN (mstK k)), 0) M) : CT l E d m_YReader_mostOf [(.int (iN k), 0)] M K := by
  refine CT.of pn_YReader (Nat.le_of_ble_eq_true rfl) ?_
  refine b_YReader_mostOf_0 hd ?_
  unfold mstK at h
  rw [iN_eq (by omega) (by omega) (by omega) (by omega), iN_eq (by omega) (by omega) (by omega) (by omega), iN_eq (by omega) (by omega) (by omega) (by omega)]
  refine ⟨fun c => ?_, fun c => ⟨fun c2 => ?_, fun c2 => ⟨fun c3 => ?_, fun c3 => ?_⟩⟩⟩
  · rw [if_neg (by omega), if_pos (by omega)] at h; exact h
  · rw [if_pos (by omega)] at h; exact h
  · rw [if_pos (by omega)] at h; exact h
  · rw [if_neg (by omega), if_neg (by omega)] at h; exact h
/-- one part of a tail -/
def yP (X : Nat → Int) (L : Nat) (C : Ch) (sp : Nat) (c : Int32) (T Y : Ch) : PS :=
  if c = iN 97 then (decide ((sgT (advT X L T) C (-1)).1 ≠ -1), (sgT (advT X L T) C (-1)).2, upd2 Y 2 sp (sgT (advT X L T) C (-1)).1)
  else if c = iN 98 then (decide ((sgT (advT X L T) C (-1)).1 ≠ -1), (sgT (advT X L T) C (-1)).2, upd2 Y 3 sp (sgT (advT X L T) C (-1)).1)
  else if c = iN 99 then ((cmT (advT X L T)).1, (cmT (advT X L T)).2, upd2 Y 5 sp ((cmT (advT X L T)).2 0 6))
  else if c = iN 116 then ((kwT (advT X L T) 10).1, (kwT (advT X L T) 10).2, Y)
  else ((nuT (advT X L T) (lstK (Y 1 sp)) (mstK (Y 1 sp))).1, (nuT (advT X L T) (lstK (Y 1 sp)) (mstK (Y 1 sp))).2, upd2 Y 4 sp ((nuT (advT X L T) (lstK (Y 1 sp)) (mstK (Y 1 sp))).2 0 5))
def yTl (X : Nat → Int) (L : Nat) (C : Ch) (sp : Nat) : List Int32 → Ch → Ch → PS
  | [], T, Y => (true, T, Y)
  | c :: t, T, Y => if (yP X L C sp c T Y).1 = true then yTl X L C sp t (yP X L C sp c T Y).2.1 (yP X L C sp c T Y).2.2 else yP X L C sp c T Y
def yE0 (X : Nat → Int) (L : Nat) (D T Y : Ch) : QS := if D 0 2 = 0 then (false, D, rfT T 2, Y) else ((stSg (advT X L T) 59).1, upd2 D 0 2 (D 0 2 - 1), (stSg (advT X L T) 59).2, addEndY Y (D 1 (D 0 2 - 1).toNat).toNat)
def opB (k : Int) : Bool := decide (k = 16 ∨ k = 19)
def yD1 (D : Ch) (k sp : Int) : Ch := if opB k = true then upd2 (upd2 D 1 (D 0 2).toNat sp) 0 2 (D 0 2 + 1) else D
def yW (X : Nat → Int) (L : Nat) (sp : Nat) (T Y : Ch) : PS :=
  if advT X L T 0 8 = 17 ∨ advT X L T 0 8 = 1 ∨ advT X L T 0 8 = 18 then (true, advT X L T, upd2 Y 1 sp (advT X L T 0 8)) else (false, rfT (advT X L T) 2, upd2 Y 1 sp (advT X L T 0 8))
def yS4 (X : Nat → Int) (L : Nat) (D : Ch) (q : PS) : QS := if q.1 = true then ((stSg (advT X L q.2.1) 59).1, D, (stSg (advT X L q.2.1) 59).2, q.2.2) else (false, D, q.2.1, q.2.2)
def yS3 (X : Nat → Int) (L : Nat) (C : Ch) (sp : Nat) (D : Ch) (q : PS) : QS := if q.1 = true then yS4 X L D (yTl X L C sp (STRB.getD (tlK (q.2.2 1 sp)) []) q.2.1 q.2.2) else (false, D, q.2.1, q.2.2)
def yS1 (X : Nat → Int) (L : Nat) (C D T Y : Ch) : QS := yS3 X L C (Y 0 6).toNat (yD1 D (T 0 8) (Y 0 6)) (if T 0 8 = 16 then yW X L (Y 0 6).toNat T (addStepY Y (T 0 8)) else (true, T, addStepY Y (T 0 8)))
def yS0 (X : Nat → Int) (L : Nat) (C D T Y : Ch) : QS := if begB (T 0 8) = true then (if Y 0 7 < 30 then (if opB (T 0 8) = true ∧ 3 ≤ D 0 2 then (false, D, rfT T 7, Y) else yS1 X L C D T Y) else (false, D, rfT T 6, Y)) else (false, D, rfT T 2, Y)
def yPt (X : Nat → Int) (L : Nat) (C D T Y : Ch) : QS := if T 0 8 = 20 then yE0 X L D T Y else yS0 X L C D T Y
def yAF (X : Nat → Int) (L : Nat) (C : Ch) : Nat → Ch → Ch → Ch → QS
  | 0, D, T, Y => (true, D, T, Y)
  | m + 1, D, T, Y => if T 0 3 = 0 then (true, D, T, Y) else if (yPt X L C D T Y).1 = true then yAF X L C m (yPt X L C D T Y).2.1 (advT X L (yPt X L C D T Y).2.2.1) (yPt X L C D T Y).2.2.2 else yPt X L C D T Y
def yFin (q : QS) : QS := if q.1 = true then (if q.2.1 0 2 = 0 then (true, q.2.1, q.2.2.1, upd2 q.2.2.2 0 8 1) else (false, q.2.1, rfT q.2.2.1 2, upd2 q.2.2.2 0 8 1)) else q
def yAll (X : Nat → Int) (L : Nat) (C D T Y : Ch) : QS := yFin (yAF X L C (L + 1) (upd2 D 0 2 0) (advT X L (startT T L)) (forgY Y))
def DI (D Y : Ch) : Prop := (0 ≤ D 0 2 ∧ D 0 2 ≤ 3) ∧ (∀ k, k < 3 → 0 ≤ D 1 k ∧ D 1 k < 60) ∧ Y 0 6 + D 0 2 ≤ 2 * Y 0 7 ∧ (0 ≤ Y 0 7 ∧ Y 0 7 ≤ 30) ∧ (0 ≤ Y 0 6 ∧ Y 0 6 ≤ 60) ∧ (Y 0 8 = 0 ∨ Y 0 8 = 1)
theorem YV.u {Y : Ch} (h : YV Y) {c k : Nat} {v : Int} (hc : (c = 1 → -1 ≤ v ∧ v ≤ 60) ∧ (c = 2 → -1 ≤ v ∧ v < 8) ∧ (c = 3 → -1 ≤ v ∧ v < 8) ∧ (c = 4 → 0 ≤ v ∧ v ≤ 9999) ∧ (c = 5 → -128 ≤ v ∧ v ≤ 127) ∧ (c = 6 → 0 ≤ v ∧ v < 60)) : YV (upd2 Y c k v) := by
  intro i hi
  obtain ⟨y1, y2, y3, y4, y5, y6⟩ := h i hi
  obtain ⟨h1, h2, h3, h4, h5, h6⟩ := hc
  have g : ∀ j, upd2 Y c k v j i = if j = c ∧ i = k then v else Y j i := fun j => rfl
  rw [g 1, g 2, g 3, g 4, g 5, g 6]
  refine ⟨?_, ?_, ?_, ?_, ?_, ?_⟩ <;> split
  · rename_i e; exact h1 e.1.symm
  · exact y1
  · rename_i e; exact h2 e.1.symm
  · exact y2
  · rename_i e; exact h3 e.1.symm
  · exact y3
  · rename_i e; exact h4 e.1.symm
  · exact y4
  · rename_i e; exact h5 e.1.symm
  · exact y5
  · rename_i e; exact h6 e.1.symm
  · exact y6
theorem yP_inv {X : Nat → Int} {L : Nat} (L9 : L ≤ 900) (hX : XBn X) {C T Y : Ch} (hV : VB C) {sp : Nat} {c : Int32} (hT : TI T L) (hY : YV Y) : TI (yP X L C sp c T Y).2.1 L ∧ YV (yP X L C sp c T Y).2.2 ∧ (∀ k, (yP X L C sp c T Y).2.2 0 k = Y 0 k) ∧ ∀ k, (yP X L C sp c T Y).2.2 1 k = Y 1 k := by
  have hA := adv_TI L9 hX hT
  have sr := sg_rng (T := advT X L T) hV (-1)
  unfold yP
  split
  · exact ⟨sg_TI hA _, hY.u ⟨(by omega), fun _ => ⟨sr.1, sr.2.1⟩, (by omega), (by omega), (by omega), (by omega)⟩, fun k => by simp [upd2], fun k => by simp [upd2]⟩
  · split
    · exact ⟨sg_TI hA _, hY.u ⟨(by omega), (by omega), fun _ => ⟨sr.1, sr.2.1⟩, (by omega), (by omega), (by omega)⟩, fun k => by simp [upd2], fun k => by simp [upd2]⟩
    · split
      · have t := cm_TI hA
        exact ⟨t, hY.u ⟨(by omega), (by omega), (by omega), (by omega), fun _ => t.2.2.2.2.2.2.1, (by omega)⟩, fun k => by simp [upd2], fun k => by simp [upd2]⟩
      · split
        · exact ⟨kw_TI hA _, hY, fun k => rfl, fun k => rfl⟩
        · have t := nu_TI hA (lstK (Y 1 sp)) (mstK (Y 1 sp))
          exact ⟨t, hY.u ⟨(by omega), (by omega), (by omega), fun _ => t.2.2.2.2.2.1, (by omega), (by omega)⟩, fun k => by simp [upd2], fun k => by simp [upd2]⟩
theorem yTl_inv {X : Nat → Int} {L : Nat} (L9 : L ≤ 900) (hX : XBn X) {C : Ch} (hV : VB C) {sp : Nat} : ∀ (t : List Int32) (T Y : Ch), TI T L → YV Y → TI (yTl X L C sp t T Y).2.1 L ∧ YV (yTl X L C sp t T Y).2.2 ∧ (∀ k, (yTl X L C sp t T Y).2.2 0 k = Y 0 k) ∧ ∀ k, (yTl X L C sp t T Y).2.2 1 k = Y 1 k
  | [], T, Y, hT, hY => ⟨hT, hY, fun _ => rfl, fun _ => rfl⟩
  | c :: t, T, Y, hT, hY => by
    have p := yP_inv L9 hX hV (sp := sp) (c := c) hT hY
    unfold yTl
    split
    · have q := yTl_inv L9 hX hV (sp := sp) t _ _ p.1 p.2.1
      exact ⟨q.1, q.2.1, fun k => by rw [q.2.2.1, p.2.2.1], fun k => by rw [q.2.2.2, p.2.2.2]⟩
    · exact p
