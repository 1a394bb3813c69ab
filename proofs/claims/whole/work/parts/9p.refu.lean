def LF (L Z : Ch) : Prop := Z 12 0 = L 0 3 ∧ Z 12 1 = L 0 4 ∧ Z 12 2 = L 0 5 ∧ Z 12 3 = L 0 6 ∧ Z 12 4 = L 0 7 ∧ Z 0 28 = L 0 2 ∧ ∀ j, j < 5 → wr (Z 12 j) = Z 12 j
theorem r_lives {l : Launch} {E : EnvT} {d : Nat} {K : AV → Mem → Prop} {M : Mem} {Y L0 C0 Z0 : Ch} {A0 : Nat → Int} {sd : Int} (hd : 11 ≤ d) (hB : Z0 0 21 = 0) (hW : WC C0) (hR : RR C0 A0 0) (hY : YV Y) (hYB : YB Y) (hP : YP Y (C0 0 8)) (hA0 : A0 4 = Y 0 6) (hr0 : ∀ i : Nat, (i : Int) < Y 0 6 → RYr Y A0 0 i) (hT : TL L0) (s1 : 0 ≤ sd) (s2 : sd < 65536) (h : ∀ (Z : Ch) (A : Nat → Int), WC (runC Y L0 C0 sd).2 → (runC Y L0 C0 sd).2 0 8 = C0 0 8 → RR (runC Y L0 C0 sd).2 A 0 → FrA 0 A0 A → ZLV Z0 Z → LF (runC Y L0 C0 sd).1 Z → TL (runC Y L0 C0 sd).1 → (runC Y L0 C0 sd).1 0 1 = 1 → K (.null, 0) (zA M Z A)) : CT l E d m_Mod_lives [(.ref 24, 41), (.int (iN sd), 0)] (zA M Z0 A0) K := by
  refine CT.of pn_Mod (Nat.le_of_ble_eq_true rfl) ?_
  have b := hYB.1
  unfold runC at h
  obtain ⟨F, hF⟩ : ∃ F : Nat, F = 1000000 := ⟨_, rfl⟩
  rw [← hF] at h
  generalize hR0 : runF Y F 0 (runC0 L0 sd) C0 = R at h
  dsimp only at h
  refine b_Mod_lives_0 (by omega) ?_
  rw [iN_small (z := sd) (by omega) (by omega), iN_small (z := 0) (by omega) (by omega), zA_u0, zA_u0]
  have w0 : wr 0 = 0 := wr_id (by omega) (by omega)
  have c1 : runC0 L0 sd 1 = L0 1 := by unfold runC0; rw [upd2_c _ _ (by decide), upd2_c _ _ (by decide), upd2_c _ _ (by decide), upd2_c _ _ (by decide), upd2_c _ _ (by decide), upd2_c _ _ (by decide), upd2_c _ _ (by decide)]
  have x1 : runC0 L0 sd 0 1 = 1 := by simp [runC0, upd2]
  have x2 : runC0 L0 sd 0 2 = 0 := by simp [runC0, upd2]
  have x3 : runC0 L0 sd 0 3 = 0 := by simp [runC0, upd2]
  have x4 : runC0 L0 sd 0 4 = 0 := by simp [runC0, upd2]
  have x6 : runC0 L0 sd 0 6 = 0 := by simp [runC0, upd2]
  have x7 : runC0 L0 sd 0 7 = 0 := by simp [runC0, upd2]
  have x8 : runC0 L0 sd 0 8 = sd := by simp [runC0, upd2]
  have li : LI (runC0 L0 sd) := LI_run0 (fun i hi => by have := hT i hi; omega) s1 s2
  have loop : ∀ (f k : Nat) (Z : Ch), k + f = 5 → (∀ c j, c ≠ 12 → Z c j = upd2 (upd2 Z0 0 27 sd) 0 28 0 c j) → (∀ j, j < k → Z 12 j = 0) → G l E d m_Mod_lives 12 [(0, (.ref 24, 41)), (2, (.int (iN (k : Int)), 0))] [] (zA M Z A0) K := by
    intro f
    induction f with
    | zero =>
      intro k Z e1 e2 e3
      have : k = 5 := (by omega)
      subst this
      refine b_Mod_lives_12 (by omega) ⟨fun _ => ?_, fun c => absurd ((iN_le (by omega) (by omega) (by omega) (by omega)).mpr (by omega)) c⟩
      have z28 : Z 0 28 = 0 := by rw [e2 0 28 (by decide), upd2_same]
      have z27 : Z 0 27 = sd := by rw [e2 0 27 (by decide), upd2_k _ _ (by decide), upd2_same]
      refine r_livesLoop (Y := Y) (n8 := C0 0 8) (p0 := C0 0 15) (R := R) (by omega) hB hY hYB hP hA0 hr0 (fun L C Z2 A2 e I => ?_) 300 0 F (runC0 L0 sd) C0 Z A0 (by rw [x2]; rfl) (by omega) ?_ x7 ⟨⟨hW, rfl, hR, FrA.rf _ _⟩, fun c j a a2 q => ?_, ⟨?_, ?_, ?_, ?_, ?_, ?_⟩, ?_, fun j a => ?_, li, fun i hi => by rw [c1]; exact hT i hi, x1⟩ (fun o o1 => absurd o1 (by omega)) (by omega) hR0
      · subst e
        obtain ⟨⟨i1, i2, i3, i4⟩, i5, ⟨y1, y2, y3, y4, y5, y6⟩, i6, i7, i8, i9, i10⟩ := I
        refine h Z2 A2 i1 i2 i3 i4 i5 ⟨?_, ?_, ?_, ?_, ?_, ?_, fun j hj => ?_⟩ (fun i hi => ?_) ?_
        · rw [upd2_k _ _ (by decide)]; exact y1
        · rw [upd2_k _ _ (by decide)]; exact y2
        · rw [upd2_same]; exact y6
        · rw [upd2_k _ _ (by decide)]; exact y3
        · rw [upd2_k _ _ (by decide)]; exact i6
        · rw [upd2_k _ _ (by decide)]; exact y5
        · have l7 := i8.2.1
          have jj : j = 0 ∨ j = 1 ∨ j = 2 ∨ j = 3 ∨ j = 4 := (by omega)
          rcases jj with rfl | rfl | rfl | rfl | rfl
          · rw [y1]; exact i7 3 (by omega)
          · rw [y2]; exact i7 4 (by omega)
          · rw [y6]; exact wr_wr _
          · rw [y3]; exact i7 6 (by omega)
          · rw [i6]; exact wr_id (by omega) (by omega)
        · rw [upd2_c _ _ (by decide)]; exact i9 i hi
        · rw [upd2_k _ _ (by decide)]; exact i10
      · rcases Int.lt_or_le 0 (Y 0 6) with q | q
        · refine Or.inr (fun e => ?_)
          obtain ⟨o, ho, hok, _⟩ := hP.1.1 0 (by omega) e
          omega
        · exact Or.inl (by omega)
      · rw [e2 c j a2, upd2_nn _ (by omega), upd2_nn _ (by omega)]
      · rw [x3]; exact e3 0 (by omega)
      · rw [x4]; exact e3 1 (by omega)
      · rw [x6]; exact e3 3 (by omega)
      · rw [x8]; exact z27
      · rw [x2]; exact z28
      · rw [Int.sub_self, w0]; exact e3 2 (by omega)
      · rw [x7]; exact e3 4 (by omega)
      · rcases a with q | q | q
        · rw [q, x3]; exact w0
        · rw [q, x4]; exact w0
        · rw [q, x6]; exact w0
    | succ f ih =>
      intro k Z e1 e2 e3
      refine b_Mod_lives_12 (by omega) ⟨fun c => absurd ((iN_le (by omega) (by omega) (by omega) (by omega)).mp c) (by omega), fun _ => ⟨iN_in (by omega) (by omega) (by omega), ?_⟩⟩
      rw [iN_add, iN_clN (by omega), iN_small (z := 0) (by omega) (by omega), zA_uo M Z A0 (show 12 ≠ 1 by decide)]
      refine ih (k + 1) _ (by omega) (fun c j hc => by rw [upd2_c _ _ hc]; exact e2 c j hc) (fun j hj => ?_)
      rw [upd2_at]
      split
      · rfl
      · exact e3 j (by omega)
  exact loop 5 0 _ (by omega) (fun _ _ _ => rfl) (fun j hj => absurd hj (by omega))
def ZLT (Z0 Z : Ch) : Prop := ∀ c k, c ≠ 11 → c ≠ 12 → c ≠ 13 → ¬ (c = 0 ∧ (k = 27 ∨ k = 28 ∨ k = 32)) → Z c k = Z0 c k
/-- what the last life has told, the class's and the reference's -/
def LT (L Z : Ch) : Prop := Z 0 32 = L 0 1 ∧ (L 0 1 = 0 ∨ L 0 1 = 1) ∧ (L 0 1 = 1 → Z 13 0 = L 0 3 ∧ Z 13 1 = L 0 4 ∧ Z 13 2 = L 0 5 ∧ Z 13 3 = L 0 6 ∧ Z 13 4 = L 0 7)
theorem RY.n {Y : Ch} {A : Nat → Int} (hYB : YB Y) (h : RY Y A 0) : -1 ≤ A 4 ∧ A 4 ≤ 60 ∧ (A 4 = -1 ↔ Y 0 8 = 0) := by
  have b := hYB.1
  rcases hYB.2.2 with q | q
  · have e : A 4 = -1 := h.2.1 q
    exact ⟨(by omega), (by omega), fun _ => q, fun _ => e⟩
  · have e : A 4 = Y 0 6 := h.1 q
    exact ⟨(by omega), (by omega), fun c => absurd c (by omega), fun c => absurd c (by omega)⟩
theorem r_live {l : Launch} {E : EnvT} {d : Nat} {K : AV → Mem → Prop} {M : Mem} {Y L C Z : Ch} {A : Nat → Int} {sd : Int} (hd : 12 ≤ d) (hB : Z 0 21 = 0) (hW : WC C) (hR : RR C A 0) (hY : YV Y) (hYB : YB Y) (hP : Y 0 8 = 1 → YP Y (C 0 8)) (hRY : RY Y A 0) (hT : TL L) (s1 : -2147483648 ≤ sd) (s2 : sd < 2147483648) (hn : ¬ (0 ≤ sd ∧ sd ≤ 9999) → K (.int (iN (-1)), 0) (zA M (sZ Z 1) A)) (h6 : 0 ≤ sd → sd ≤ 9999 → Y 0 8 = 0 → K (.int (iN (-1)), 0) (zA M (sZ Z 6) A)) (hy : 0 ≤ sd → sd ≤ 9999 → Y 0 8 = 1 → ∀ (Z' : Ch) (A' : Nat → Int), WC (runC Y L C sd).2 → (runC Y L C sd).2 0 8 = C 0 8 → RR (runC Y L C sd).2 A' 0 → FrA 0 A A' → ZLT Z Z' → LT (runC Y L C sd).1 Z' → TL (runC Y L C sd).1 → K (.int (iN ((runC Y L C sd).1 0 2)), 0) (zA M (sZ Z' 0) A')) : CT l E d m_Mod_live [(.ref 24, 41), (.int (iN sd), 0)] (zA M Z A) K := by
  refine CT.of pn_Mod (Nat.le_of_ble_eq_true rfl) ?_
  have rn := hRY.n hYB
  refine b_Mod_live_0 (by omega) (r_isFromI (lo := 0) (hi := 9999) (by omega) s1 s2 (by omega) (by omega) (by omega) (by omega) ?_)
  rw [toI_int, b2i_z, decide_eq_false_iff_not, zA_1, clA (z := 4) (j := 4) rfl (by omega), iN_eq (by omega) (by omega) (by omega) (by omega)]
  refine ⟨fun c => ⟨inA (by omega) (by omega), fun c2 => ?_, fun c2 => r_refuse (by omega) (by omega) (by omega) (h6 (by omega) (by omega) (rn.2.2.mp c2))⟩, fun c => r_refuse (by omega) (by omega) (by omega) (hn c)⟩
  have y1 : Y 0 8 = 1 := by
    rcases hYB.2.2 with q | q
    · exact absurd (rn.2.2.mpr q) c2
    · exact q
  have hy := hy (by omega) (by omega) y1
  refine r_lives (Y := Y) (L0 := L) (by omega) hB hW hR hY hYB (hP y1) (hRY.1 y1) hRY.2.2 hT (by omega) (by omega) (fun Z2 A2 i1 i2 i3 i4 i5 i6 i7 i8 => ?_)
  generalize runC Y L C sd = R at hy i1 i2 i3 i6 i7 i8
  obtain ⟨f0, f1, f2, f3, f4, f5, fw⟩ := i6
  have loop : ∀ (f k : Nat) (Y2 : Ch), k + f = 5 → (∀ c, c ≠ 13 → Y2 c = Z2 c) → (∀ j, j < k → Y2 13 j = wr (Z2 12 j)) → G l E d m_Mod_live 42 [(0, (.ref 24, 41)), (2, (.int (iN (k : Int)), 0))] [] (zA M Y2 A2) K := by
    intro f
    induction f with
    | zero =>
      intro k Y2 e1 e2 e3
      have : k = 5 := (by omega)
      subst this
      refine b_Mod_live_42 (by omega) ⟨fun _ => ⟨o01, ?_⟩, fun c => absurd ((iN_le (by omega) (by omega) (by omega) (by omega)).mpr (by omega)) c⟩
      rw [iN_small (z := 1) (by omega) (by omega), zA_u0, zA_0, upd2_k _ _ (show 28 ≠ 32 by decide), e2 0 (by decide), f5]
      refine r_gives (by omega) (hy _ A2 i1 i2 i3 i4 (fun c j a1 a2 a3 a4 => ?_) ⟨?_, Or.inr i8, fun _ => ⟨?_, ?_, ?_, ?_, ?_⟩⟩ i7)
      · rw [upd2_nn _ (by omega), e2 c a3]
        exact i5 c j a1 a2 (by omega)
      · rw [upd2_same, i8]
      · rw [upd2_c _ _ (by decide), e3 0 (by omega), fw 0 (by omega)]; exact f0
      · rw [upd2_c _ _ (by decide), e3 1 (by omega), fw 1 (by omega)]; exact f1
      · rw [upd2_c _ _ (by decide), e3 2 (by omega), fw 2 (by omega)]; exact f2
      · rw [upd2_c _ _ (by decide), e3 3 (by omega), fw 3 (by omega)]; exact f3
      · rw [upd2_c _ _ (by decide), e3 4 (by omega), fw 4 (by omega)]; exact f4
    | succ f ih =>
      intro k Y2 e1 e2 e3
      refine b_Mod_live_42 (by omega) ⟨fun c => absurd ((iN_le (by omega) (by omega) (by omega) (by omega)).mp c) (by omega), fun _ => ⟨iN_in (by omega) (by omega) (by omega), iN_in (by omega) (by omega) (by omega), ?_⟩⟩
      rw [iN_add, iN_clN (by omega), zA_c M Y2 A2 (show 12 ≠ 1 by decide), zA_uo M Y2 A2 (show 13 ≠ 1 by decide), e2 12 (by decide)]
      refine ih (k + 1) _ (by omega) (fun c hc => by rw [upd2_c _ _ hc]; exact e2 c hc) (fun j hj => ?_)
      rw [upd2_at]
      split
      · rename_i q; rw [q]; rfl
      · exact e3 j (by omega)
  exact loop 5 0 Z2 (by omega) (fun _ _ => rfl) (fun j hj => absurd hj (by omega))
theorem r_lived {l : Launch} {E : EnvT} {d : Nat} {K : AV → Mem → Prop} {M : Mem} {L Z : Ch} {A : Nat → Int} {z : Int} (hd : 2 ≤ d) (hL : LT L Z) (z1 : -2147483648 ≤ z) (z2 : z < 2147483648) (hn : ¬ (0 ≤ z ∧ z ≤ 4) → K (.int (iN (-1)), 0) (zA M (sZ Z 1) A)) (h6 : 0 ≤ z → z ≤ 4 → L 0 1 = 0 → K (.int (iN (-1)), 0) (zA M (sZ Z 6) A)) (hy : 0 ≤ z → z ≤ 4 → L 0 1 = 1 → K (.int (iN (L 0 (3 + z.toNat))), 0) (zA M (sZ Z 0) A)) : CT l E d m_Mod_lived [(.ref 24, 41), (.int (iN z), 0)] (zA M Z A) K := by
  refine CT.of pn_Mod (Nat.le_of_ble_eq_true rfl) ?_
  obtain ⟨l1, l2, l3⟩ := hL
  refine b_Mod_lived_0 (by omega) ?_
  rw [zA_0, l1, iN_lt0 z1 z2, iN_le z1 z2 (by omega) (by omega), iN_eq0 (by omega) (by omega)]
  refine ⟨fun c => r_refuse (by omega) (by omega) (by omega) (hn (by omega)), fun c => ⟨fun c2 => ⟨fun c3 => r_refuse (by omega) (by omega) (by omega) (h6 (by omega) (by omega) c3), fun c3 => ⟨iN_in (by omega) (by omega) (by omega), ?_⟩⟩, fun c2 => r_refuse (by omega) (by omega) (by omega) (hn (by omega))⟩⟩
  have o1 : L 0 1 = 1 := (by omega)
  have hy := hy (by omega) (by omega) o1
  obtain ⟨m0, m1, m2, m3, m4⟩ := l3 o1
  rw [zA_c M Z A (show 13 ≠ 1 by decide)]
  have jj : z = 0 ∨ z = 1 ∨ z = 2 ∨ z = 3 ∨ z = 4 := (by omega)
  rcases jj with rfl | rfl | rfl | rfl | rfl
  · rw [cl4 (z := 0) (j := 0) rfl (by omega), m0]; exact r_gives (by omega) hy
  · rw [cl4 (z := 1) (j := 1) rfl (by omega), m1]; exact r_gives (by omega) hy
  · rw [cl4 (z := 2) (j := 2) rfl (by omega), m2]; exact r_gives (by omega) hy
  · rw [cl4 (z := 3) (j := 3) rfl (by omega), m3]; exact r_gives (by omega) hy
  · rw [cl4 (z := 4) (j := 4) rfl (by omega), m4]; exact r_gives (by omega) hy
