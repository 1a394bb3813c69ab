/-- the reference's row of numbers between two lives of mean: A before it, A2 now -/
def IM (C : Ch) (A A2 : Nat → Int) : Prop := (∀ j, j < 238 → A2 (3010 + j) = wr (A j)) ∧ (∀ j, 238 ≤ j → j < 3010 → A2 j = A j) ∧ RR C A2 0 ∧ A2 4 = A 4
theorem r_mean {l : Launch} {E : EnvT} {d : Nat} {K : AV → Mem → Prop} {M : Mem} {Y L C D Z : Ch} {A : Nat → Int} {sd n : Int} (hd : 12 ≤ d) (hB : Z 0 21 = 0) (hW : WC C) (hR : RR C A 0) (hY : YV Y) (hYB : YB Y) (hP : Y 0 8 = 1 → YP Y (C 0 8)) (hRY : RY Y A 0) (hT : TL L) (s1 : -2147483648 ≤ sd) (s2 : sd < 2147483648) (n1 : -2147483648 ≤ n) (n2 : n < 2147483648) (hn : ¬ (0 ≤ sd ∧ sd ≤ 9999 ∧ 1 ≤ n ∧ n ≤ 20 ∧ sd + n - 1 ≤ 9999) → K (.int (iN 0), 0) (zA M (sZ Z 1) A)) (h6 : 0 ≤ sd → sd ≤ 9999 → 1 ≤ n → n ≤ 20 → sd + n - 1 ≤ 9999 → Y 0 8 = 0 → K (.int (iN 0), 0) (zA M (sZ Z 6) A)) (hy : 0 ≤ sd → sd ≤ 9999 → 1 ≤ n → n ≤ 20 → sd + n - 1 ≤ 9999 → Y 0 8 = 1 → ∀ (Z' : Ch) (A' : Nat → Int), IM C A A' → ZLV Z Z' → TL (mnF Y C sd n.toNat 0 L D 0).1 → K (.int (iN 1), 0) (zA M (sZ (tfZ Z' (mnF Y C sd n.toNat 0 L D 0).2.2.toNat n.toNat) 0) A')) : CT l E d m_Mod_mean [(.ref 24, 41), (.int (iN sd), 0), (.int (iN n), 0)] (zA M Z A) K := by
  refine CT.of pn_Mod (Nat.le_of_ble_eq_true rfl) ?_
  have rn := hRY.n hYB
  have hV := hW.1
  refine b_Mod_mean_0 (by omega) (r_isFromI (lo := 0) (hi := 9999) (by omega) s1 s2 (by omega) (by omega) (by omega) (by omega) ?_)
  rw [toI_int, b2i_z, decide_eq_false_iff_not]
  refine ⟨fun c => r_is (w := 1) (by omega) (by omega) (by omega) ⟨z01, hn (by omega)⟩, fun c => r_isFromI (lo := 1) (hi := 20) (by omega) n1 n2 (by omega) (by omega) (by omega) (by omega) ?_⟩
  rw [toI_int, b2i_z, decide_eq_false_iff_not]
  refine ⟨fun c2 => r_is (w := 1) (by omega) (by omega) (by omega) ⟨z01, hn (by omega)⟩, fun c2 => ?_⟩
  rw [iN_add, iN_sub, iN_le (by omega) (by omega) (by omega) (by omega), zA_1, clA (z := 4) (j := 4) rfl (by omega), iN_eq (by omega) (by omega) (by omega) (by omega)]
  refine ⟨fun c3 => ⟨inA (by omega) (by omega), fun c4 => ?_, fun c4 => r_is (w := 6) (by omega) (by omega) (by omega) ⟨z01, h6 (by omega) (by omega) (by omega) (by omega) (by omega) (rn.2.2.mp c4)⟩⟩, fun c3 => r_is (w := 1) (by omega) (by omega) (by omega) ⟨z01, hn (by omega)⟩⟩
  have y1 : Y 0 8 = 1 := by
    rcases hYB.2.2 with q | q
    · exact absurd (rn.2.2.mpr q) c4
    · exact q
  have hy := hy (by omega) (by omega) (by omega) (by omega) (by omega) y1
  have hP := hP y1
  have hA4 : A 4 = Y 0 6 := hRY.1 y1
  obtain ⟨N, rfl⟩ : ∃ N : Nat, n = N := ⟨n.toNat, (by omega)⟩
  rw [show ((N : Int)).toNat = N from rfl] at hy
  have key : ∀ (m i : Nat) (L2 D2 Z2 : Ch) (A2 : Nat → Int) (x : Int), i + m = N → TL L2 → IM C A A2 → ZLV Z Z2 → 0 ≤ x → x ≤ 100000 * i → mnF Y C sd N 0 L D 0 = mnF Y C sd m i L2 D2 x → G l E d m_Mod_mean 94 [(0, (.ref 24, 41)), (1, (.int (iN sd), 0)), (2, (.int (iN (N : Int)), 0)), (3, (.long (lI x), 0)), (5, (.int (iN (i : Int)), 0))] [] (zA M Z2 A2) K := by
    intro m
    induction m with
    | zero =>
      intro i L2 D2 Z2 A2 x hi hT2 hI hz x1 x2 he
      have he : _ = (L2, D2, x) := he
      rw [he] at hy
      refine b_Mod_mean_94 (by omega) ⟨fun _ => ?_, fun c => absurd ((iN_le (by omega) (by omega) (by omega) (by omega)).mpr (by omega)) c⟩
      obtain ⟨X, hX⟩ : ∃ X : Nat, x = X := ⟨x.toNat, (by omega)⟩
      subst hX
      rw [iN_toL (by omega) (by omega)]
      exact r_tellsBy (by omega) (by omega) (by omega) (by omega) ⟨o01, hy Z2 A2 hI hz hT2⟩
    | succ m ih =>
      intro i L2 D2 Z2 A2 x hi hT2 hI hz x1 x2 he
      have he : _ = mnF Y C sd m (i + 1) (runC Y L2 C (sd + i)).1 (runC Y L2 C (sd + i)).2 (x + allOwC (runC Y L2 C (sd + i)).2 0) := he
      obtain ⟨im1, im2, im3, im4⟩ := hI
      have b21 : Z2 0 21 = 0 := by rw [hz 0 21 (by decide) (by decide) (by simp)]; exact hB
      refine b_Mod_mean_94 (by omega) ⟨fun c => absurd ((iN_le (by omega) (by omega) (by omega) (by omega)).mp c) (by omega), fun _ => ?_⟩
      rw [iN_add]
      refine r_lives (Y := Y) (L0 := L2) (by omega) b21 hW im3 hY hYB hP (by rw [im4]; exact hA4) (fun j hj => (hRY.2.2 j hj).fr (fun q q1 q2 => im2 q (by omega) (by omega)) (by have := hYB.1; omega)) hT2 (by omega) (by omega) (fun Z3 A3 i1 i2 i3 i4 i5 i6 i7 i8 => ?_)
      generalize runC Y L2 C (sd + i) = R at he i1 i2 i3 i6 i7 i8
      have b31 : Z3 0 21 = 0 := by rw [i5 0 21 (by decide) (by decide) (by simp)]; exact b21
      have ar := allOwC_rng i1.1 0
      refine r_allOwed (by omega) b31 i1 i3 ?_
      rw [toI_int, iN_toL (by omega) (by omega), lI_add]
      have back : ∀ (f k : Nat) (A4 : Nat → Int), k + f = 238 → (∀ j, j < k → A4 j = wr (A j)) → (∀ j, k ≤ j → A4 j = A3 j) → G l E d m_Mod_mean 119 [(0, (.ref 24, 41)), (1, (.int (iN sd), 0)), (2, (.int (iN (N : Int)), 0)), (3, (.long (lI (x + allOwC R.2 0)), 0)), (5, (.int (iN (i : Int)), 0)), (6, (.int (iN (k : Int)), 0))] [] (zA M Z3 A4) K := by
        intro f
        induction f with
        | zero =>
          intro k A4 e1 e2 e3
          have : k = 238 := (by omega)
          subst this
          refine b_Mod_mean_119 (by omega) ⟨fun _ => ?_, fun c => absurd ((iN_le (by omega) (by omega) (by omega) (by omega)).mpr (by omega)) c⟩
          rw [iN_add]
          refine ih (i + 1) R.1 R.2 Z3 A4 _ (by omega) i7 ⟨fun j hj => ?_, fun j h1 h2 => ?_, ?_, ?_⟩ (fun c j a1 a2 a3 => by rw [i5 c j a1 a2 a3]; exact hz c j a1 a2 a3) (by omega) (by push_cast; omega) he
          · rw [e3 _ (by omega), i4 _ (by omega)]; exact im1 j hj
          · rw [e3 _ (by omega), i4 _ (by omega)]; exact im2 j h1 h2
          · exact RR_cp (B := 0) (B' := 0) hV hR (fun j hj => by rw [Nat.zero_add]; exact e2 j hj)
          · rw [e2 4 (by omega)]; exact wr_id (by omega) (by omega)
        | succ f ihf =>
          intro k A4 e1 e2 e3
          refine b_Mod_mean_119 (by omega) ⟨fun c => absurd ((iN_le (by omega) (by omega) (by omega) (by omega)).mp c) (by omega), fun _ => ?_⟩
          rw [iN_add, iN_add]
          refine ⟨inA (by omega) (by omega), inA (by omega) (by omega), ?_⟩
          rw [clA (z := 3010 + (k : Int)) (j := 3010 + k) (by omega) (by omega), clA (z := (k : Int)) (j := k) rfl (by omega), zA_1, zA_u, e3 (3010 + k) (by omega), i4 (3010 + k) (by omega), im1 k (by omega)]
          refine ihf (k + 1) _ (by omega) (fun j hj => ?_) (fun j hj => ?_)
          · rw [updP_at]
            split
            · rename_i q; rw [q]; exact wr_wr _
            · exact e2 j (by omega)
          · rw [updP_at, if_neg (by omega)]; exact e3 j (by omega)
      exact back 238 0 A3 (by omega) (fun j hj => absurd hj (by omega)) (fun _ _ => rfl)
  have go : ∀ (f k : Nat) (A2 : Nat → Int), k + f = 238 → (∀ j, j < k → A2 (3010 + j) = wr (A j)) → (∀ j, j < 3010 → A2 j = A j) → G l E d m_Mod_mean 60 [(0, (.ref 24, 41)), (1, (.int (iN sd), 0)), (2, (.int (iN (N : Int)), 0)), (3, (.int (iN (k : Int)), 0))] [] (zA M Z A2) K := by
    intro f
    induction f with
    | zero =>
      intro k A2 e1 e2 e3
      have : k = 238 := (by omega)
      subst this
      refine b_Mod_mean_60 (by omega) ⟨fun _ => ?_, fun c => absurd ((iN_le (by omega) (by omega) (by omega) (by omega)).mpr (by omega)) c⟩
      exact key N 0 L D Z A2 0 (by omega) hT ⟨e2, fun j _ h2 => e3 j h2, hR.fr hV (fun j _ h2 => e3 j (by omega)), e3 4 (by omega)⟩ (fun _ _ _ _ _ => rfl) (by omega) (by omega) rfl
    | succ f ih =>
      intro k A2 e1 e2 e3
      refine b_Mod_mean_60 (by omega) ⟨fun c => absurd ((iN_le (by omega) (by omega) (by omega) (by omega)).mp c) (by omega), fun _ => ?_⟩
      rw [iN_add, iN_add]
      refine ⟨inA (by omega) (by omega), inA (by omega) (by omega), ?_⟩
      rw [clA (z := 3010 + (k : Int)) (j := 3010 + k) (by omega) (by omega), clA (z := (k : Int)) (j := k) rfl (by omega), zA_1, zA_u, e3 k (by omega)]
      refine ih (k + 1) _ (by omega) (fun j hj => ?_) (fun j hj => ?_)
      · rw [updP_at]
        by_cases q : j = k
        · rw [if_pos (by omega), q]; rfl
        · rw [if_neg (by omega)]; exact e2 j (by omega)
      · rw [updP_at, if_neg (by omega)]; exact e3 j hj
  exact go 238 0 A (by omega) (fun j hj => absurd hj (by omega)) (fun _ _ => rfl)
