def plA (A A' : Nat → Int) (B : Nat) : Prop := (∀ j, ¬ (B ≤ j ∧ j < B + 602) → A' j = A j) ∧ A' (B + 4) = -1 ∧ (∀ i, i < 48 → A' (B + 118 + i) = -1) ∧ ∀ k, k < 602 → k ≠ 4 → ¬ (118 ≤ k ∧ k < 166) → A' (B + k) = 0
theorem r_plain {l : Launch} {E : EnvT} {d : Nat} {K : AV → Mem → Prop} {M : Mem} {Z : Ch} {A : Nat → Int} {B : Nat} (hd : 1 ≤ d) (hB : B ≤ 3010) (h : ∀ A', plA A A' B → K (.null, 0) (zA M Z A')) : CT l E d m_Mod_plain [(.ref 24, 41), (.int (iN (B : Int)), 0)] (zA M Z A) K := by
  refine CT.of pn_Mod (Nat.le_of_ble_eq_true rfl) ?_
  have two : ∀ (f k : Nat) (A2 : Nat → Int), k + f = 48 → (∀ j, A2 j = if B ≤ j ∧ j < B + 602 then (if B + 118 ≤ j ∧ j < B + 118 + k then -1 else 0) else A j) → G l E d m_Mod_plain 26 [(0, (.ref 24, 41)), (1, (.int (iN (B : Int)), 0)), (2, (.int (iN (k : Int)), 0))] [] (zA M Z A2) K := by
    intro f
    induction f with
    | zero =>
      intro k A2 e1 e2
      have : k = 48 := (by omega)
      subst this
      refine b_Mod_plain_26 (by omega) ⟨fun _ => ?_, fun c => absurd ((iN_le (by omega) (by omega) (by omega) (by omega)).mpr (by omega)) c⟩
      rw [iN_add, clA (z := (B : Int) + 4) (j := B + 4) (by omega) (by omega), iN_m1I, zA_u]
      refine ⟨inA (by omega) (by omega), h _ ⟨fun j hj => ?_, updP_same _ _ _, fun i hi => ?_, fun k k1 k2 k3 => ?_⟩⟩
      · rw [updP_ne _ _ (by omega), e2, if_neg hj]
      · rw [updP_ne _ _ (by omega), e2, if_pos (by omega), if_pos (by omega)]
      · rw [updP_ne _ _ (by omega), e2, if_pos (by omega), if_neg (by omega)]
    | succ f ih =>
      intro k A2 e1 e2
      refine b_Mod_plain_26 (by omega) ⟨fun c => absurd ((iN_le (by omega) (by omega) (by omega) (by omega)).mp c) (by omega), fun _ => ?_⟩
      rw [iN_add, iN_add, iN_add, clA (z := (B : Int) + 118 + (k : Int)) (j := B + 118 + k) (by omega) (by omega), iN_m1I, zA_u]
      refine ⟨inA (by omega) (by omega), ih (k + 1) _ (by omega) (fun j => ?_)⟩
      rw [updP_at, e2]
      by_cases q : j = B + 118 + k
      · rw [if_pos q, if_pos (by omega), if_pos (by omega)]
      · rw [if_neg q]
        by_cases q2 : B ≤ j ∧ j < B + 602
        · rw [if_pos q2, if_pos q2]
          by_cases q3 : B + 118 ≤ j ∧ j < B + 118 + k
          · rw [if_pos q3, if_pos (by omega)]
          · rw [if_neg q3, if_neg (by omega)]
        · rw [if_neg q2, if_neg q2]
  have one : ∀ (f k : Nat) (A2 : Nat → Int), k + f = 602 → (∀ j, A2 j = if B ≤ j ∧ j < B + k then 0 else A j) → G l E d m_Mod_plain 2 [(0, (.ref 24, 41)), (1, (.int (iN (B : Int)), 0)), (2, (.int (iN (k : Int)), 0))] [] (zA M Z A2) K := by
    intro f
    induction f with
    | zero =>
      intro k A2 e1 e2
      have : k = 602 := (by omega)
      subst this
      refine b_Mod_plain_2 (by omega) ⟨fun _ => two 48 0 A2 (by omega) (fun j => ?_), fun c => absurd ((iN_le (by omega) (by omega) (by omega) (by omega)).mpr (by omega)) c⟩
      rw [e2, if_neg (show ¬ (B + 118 ≤ j ∧ j < B + 118 + 0) by omega)]
    | succ f ih =>
      intro k A2 e1 e2
      refine b_Mod_plain_2 (by omega) ⟨fun c => absurd ((iN_le (by omega) (by omega) (by omega) (by omega)).mp c) (by omega), fun _ => ?_⟩
      rw [iN_add, iN_add, clA (z := (B : Int) + (k : Int)) (j := B + k) (by omega) (by omega), iN_0I, zA_u]
      refine ⟨inA (by omega) (by omega), ih (k + 1) _ (by omega) (fun j => ?_)⟩
      rw [updP_at, e2]
      by_cases q : j = B + k
      · rw [if_pos q, if_pos (by omega)]
      · rw [if_neg q]
        by_cases q2 : B ≤ j ∧ j < B + k
        · rw [if_pos q2, if_pos (by omega)]
        · rw [if_neg q2, if_neg (by omega)]
  exact b_Mod_plain_0 (by omega) (one 602 0 A (by omega) (fun j => by rw [if_neg (by omega)]))
theorem RR_empty {C : Ch} {A A' : Nat → Int} {B : Nat} (h : plA A A' B) : RR (emptyC C) A' B := by
  obtain ⟨p1, p2, p3, p4⟩ := h
  have e0 : ∀ j, 8 ≤ j → j ≤ 15 → emptyC C 0 j = 0 := by
    intro j h1 h2
    have : j = 8 ∨ j = 9 ∨ j = 10 ∨ j = 11 ∨ j = 12 ∨ j = 13 ∨ j = 14 ∨ j = 15 := (by omega)
    rcases this with rfl | rfl | rfl | rfl | rfl | rfl | rfl | rfl <;> simp [emptyC, upd2]
  have e8 : emptyC C 8 3 = 0 := by simp [emptyC, upd2]
  have e6 : ∀ i, i < 48 → emptyC C 6 i = -1 := fun i hi => by simp [emptyC, upd2, fillC, hi]
  have e7 : ∀ i, i < 48 → emptyC C 7 i = 0 := fun i hi => by simp [emptyC, upd2, fillC, hi]
  refine ⟨⟨by rw [p4 0 (by omega) (by omega) (by omega), e0 8 (by omega) (by omega)], by rw [p4 1 (by omega) (by omega) (by omega), e0 13 (by omega) (by omega)], by rw [p4 2 (by omega) (by omega) (by omega), e0 14 (by omega) (by omega)], by rw [p4 3 (by omega) (by omega) (by omega), e0 15 (by omega) (by omega)], by rw [p4 5 (by omega) (by omega) (by omega), e8]⟩, fun s hs => ?_, fun s k hs => ?_, fun i hi => ?_, fun k hk => ?_⟩
  · rw [e0 8 (by omega) (by omega)] at hs; omega
  · rw [e0 8 (by omega) (by omega)] at hs; omega
  · rw [p3 i hi, e6 i hi, e7 i hi, show B + 166 + i = B + (166 + i) by omega, p4 (166 + i) (by omega) (by omega) (by omega)]
    exact ⟨rfl, rfl⟩
  · rw [e8] at hk; omega
/-- the reference's numbers with n + 1 singers, the last one's line of t notes -/
def patA (A : Nat → Int) (n : Nat) (t : Int) : Nat → Int := updP (updP A 2408 ((n : Int) + 1)) (2408 + 6 + 8 * n + 1) t
def FrL (n : Nat) (A A' : Nat → Int) : Prop := ∀ j, ¬ (2478 + 6 * n ≤ j ∧ j < 2478 + 6 * n + 6) → j ≠ 3006 → j ≠ 2415 + 8 * n → A' j = A j
theorem FrL.rf (n : Nat) (A : Nat → Int) : FrL n A A := fun _ _ _ _ => rfl
theorem nuT_y {T : Ch} {a b : Int} (h : (nuT T a b).1 = true) : (nuT T a b).2 = T ∧ T 0 3 = 2 ∧ a ≤ T 0 5 ∧ T 0 5 ≤ b := by
  unfold nuT at h ⊢
  by_cases c : T 0 3 = 2
  · rw [if_pos c] at h ⊢
    by_cases c2 : a ≤ T 0 5 ∧ T 0 5 ≤ b
    · rw [if_pos c2]; exact ⟨rfl, c, c2.1, c2.2⟩
    · rw [if_neg c2] at h; cases h
  · rw [if_neg c] at h; cases h
theorem nuT_n {T : Ch} {a b : Int} (h2 : T 0 3 = 2) (h : ¬ (a ≤ T 0 5 ∧ T 0 5 ≤ b)) : (nuT T a b).1 = false := by
  unfold nuT
  rw [if_pos h2, if_neg h]
theorem r_aLineL {l : Launch} {E : EnvT} {d : Nat} {K : AV → Mem → Prop} {M : Mem} {X : Nat → Int} {L n : Nat} {p : Int} (hd : 6 ≤ d) (hX : XBn X) (L9 : L ≤ 900) (n8 : n < 8) : ∀ (m t : Nat) (T C Z : Ch) (A : Nat → Int), t + m = 7 → t ≤ 6 → OKT X L p T Z → VB C → C 0 8 = (n : Int) + 1 → C 4 n = t → RR C (patA A n t) 2408 → ((rLi X L n m t T C).1 = true → ∀ (Z' : Ch) (A' : Nat → Int), ZP Z Z' → FrL n A A' → OKT X L p (rLi X L n m t T C).2.1 Z' → RR (rLi X L n m t T C).2.2 (updP A' 2408 ((n : Int) + 1)) 2408 → K (.int (iN 1), 0) (zA M Z' A')) → ((rLi X L n m t T C).1 = false → ∀ (Z' : Ch) (A' : Nat → Int), ZP Z Z' → FrL n A A' → FZ (rLi X L n m t T C).2.1 Z' → K (.int (iN 0), 0) (zA M Z' A')) → G l E d m_Mod_aLine 2 [(0, (.ref 24, 41)), (1, (.int (iN (n : Int)), 0)), (2, (.int (iN (t : Int)), 0))] [] (zA M Z A) K := by
  intro m
  induction m with
  | zero => intro t T C Z A h1 h2; omega
  | succ m ih =>
    intro t T C Z A h1 h2 ok hV h8 h4 hR hy hn
    have he : rLi X L n (m + 1) t T C = if 0 < t ∧ T 0 3 ≠ 2 then (true, T, C) else if (nuT T 0 24).1 = true then (if t = 6 then (false, rfT T 6, C) else rLi X L n m (t + 1) (advT X L T) (addNoteC C n (T 0 5))) else (false, (nuT T 0 24).2, C) := rfl
    rw [he] at hy hn
    have a3 := ok.2.1.2.2.2.1
    have a5 := ok.2.1.2.2.2.2.2.1
    have tk := (tk_iff a3.1 a3.2).2.2.1
    have body : ¬ (0 < t ∧ T 0 3 ≠ 2) → G l E d m_Mod_aLine 14 [(0, (.ref 24, 41)), (1, (.int (iN (n : Int)), 0)), (2, (.int (iN (t : Int)), 0))] [] (zA M Z A) K := by
      intro c
      rw [if_neg c] at hy hn
      have g42 : (t = 6 → (nuT T 0 24).1 = false) → G l E d m_Mod_aLine 42 [(0, (.ref 24, 41)), (1, (.int (iN (n : Int)), 0)), (2, (.int (iN (t : Int)), 0))] [] (zA M Z A) K := by
        intro c6
        refine b_Mod_aLine_42 (by omega) ?_
        rw [iN_eq (a := (t : Int)) (by omega) (by omega) (by omega) (by omega)]
        refine ⟨fun t6 => ?_, fun t6 => ?_⟩
        · rw [iN_mul, iN_add, iN_add, iN_add, show (2408 : Int) + (70 + 6 * (n : Int) + (t : Int)) = ((2478 + (6 * n + t) : Nat) : Int) by omega]
          refine r_number (by omega) hX L9 ok (by omega) (by omega) (by omega) (by omega) (by omega) (fun q Z' z1 z2 => ?_) (fun q Z' z1 z2 => ?_)
          · have ny := nuT_y q
            rw [ny.1] at z2
            rw [if_pos q, if_neg (by omega)] at hy hn
            rw [toI_int]
            refine ⟨fun _ => ?_, fun c => absurd c (by decide +kernel)⟩
            rw [iN_add, show (t : Int) + 1 = ((t + 1 : Nat) : Int) from rfl]
            have fl : FrL n A (updP A (2478 + (6 * n + t)) (T 0 5)) := fun j a b c => updP_ne _ _ (by omega)
            refine ih (t + 1) (advT X L T) (addNoteC C n (T 0 5)) Z' (updP A (2478 + (6 * n + t)) (T 0 5)) (by omega) (by omega) z2 (VB_addNote hV n8 (by rw [h4]; omega) ny.2.2.1 ny.2.2.2) ?_ ?_ ?_ (fun a Z2 A2 b c => hy a Z2 A2 (z1.tr b) (fun j q1 q2 q3 => by rw [c j q1 q2 q3]; exact fl j q1 q2 q3)) (fun a Z2 A2 b c => hn a Z2 A2 (z1.tr b) (fun j q1 q2 q3 => by rw [c j q1 q2 q3]; exact fl j q1 q2 q3))
            · rw [addNoteC_c (by decide) (by decide)]; exact h8
            · rw [addNoteC_4, h4]; push_cast; rfl
            · refine (RR_note (v := T 0 5) hV hR n8 h4 (by omega)).fr (VB_addNote hV n8 (by rw [h4]; omega) ny.2.2.1 ny.2.2.2) (fun j j1 j2 => ?_)
              unfold patA
              simp only [updP_at]
              repeat' split
              all_goals first | rfl | omega
          · rw [if_neg (by rw [q]; decide)] at hn
            rw [toI_int]
            exact ⟨fun c => absurd (by decide +kernel) c, fun _ => ⟨z01, hn rfl Z' A z1 (FrL.rf _ _) z2⟩⟩
        · rw [iN_add, show (2408 : Int) + 598 = ((3006 : Nat) : Int) from rfl]
          refine r_number (by omega) hX L9 ok (by omega) (by omega) (by omega) (by omega) (by omega) (fun q Z' z1 z2 => ?_) (fun q Z' z1 z2 => ?_)
          · rw [c6 (by omega)] at q; cases q
          · rw [if_neg (by rw [q]; decide)] at hn
            rw [toI_int]
            exact ⟨fun c => absurd (by decide +kernel) c, fun _ => ⟨z01, hn rfl Z' A z1 (FrL.rf _ _) z2⟩⟩
      refine b_Mod_aLine_14 (by omega) ?_
      rw [iN_eq (a := (t : Int)) (by omega) (by omega) (by omega) (by omega)]
      refine ⟨fun t6 => g42 (fun q => absurd q (by omega)), fun t6 => ?_⟩
      have k2 : T 0 3 = 2 := by
        by_cases e : T 0 3 = 2
        · exact e
        · exact absurd ⟨by omega, e⟩ c
      rw [zA_0, ok.1.2.2.2.2.1 k2]
      refine r_isFromI (lo := 0) (hi := 24) (by omega) (by omega) (by omega) (by omega) (by omega) (by omega) (by omega) ?_
      rw [toI_int, b2i_z, decide_eq_false_iff_not]
      refine ⟨fun q => g42 (fun _ => nuT_n k2 q), fun q => r_fails (by omega) ok (by omega) (by omega) (fun Z' z1 z2 => ⟨z01, ?_⟩)⟩
      have q := Classical.not_not.mp q
      have ny : (nuT T 0 24).1 = true := by unfold nuT; rw [if_pos k2, if_pos q]
      rw [if_pos ny, if_pos (by omega)] at hn
      exact hn rfl Z' A z1 (FrL.rf _ _) z2
    refine b_Mod_aLine_2 (by omega) ?_
    rw [iN_eq0 (a := (t : Int)) (by omega) (by omega), zA_0, ok.1.2.2.1, tk]
    refine ⟨fun t0 => body (fun q => by omega), fun t0 => ⟨fun k => ?_, fun k => body (fun q => q.2 k)⟩⟩
    rw [if_pos ⟨by omega, k⟩] at hy
    refine c_singerRow (by omega) ?_
    rw [toI_int, iN_add, iN_add, clA (z := 2408 + (6 + 8 * (n : Int)) + 1) (j := 2408 + 6 + 8 * n + 1) (by omega) (by omega), iN_small (by omega) (by omega), zA_u]
    refine ⟨inA (by omega) (by omega), o01, hy rfl Z _ (ZP.rf _) (fun j a b c => updP_ne _ _ (by omega)) ok (hR.fr hV (fun j j1 j2 => ?_))⟩
    unfold patA
    simp only [updP_at]
    repeat' split
    all_goals first | rfl | omega
