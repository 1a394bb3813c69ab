theorem b8 : ∀ n : Nat, n < 256 → (iN ((n : Int) - 128)).toInt8.toInt32.toInt = (n : Int) - 128 := by decide +kernel
theorem b8v {v : Int} (h1 : -128 ≤ v) (h2 : v ≤ 127) : (iN v).toInt8.toInt32.toInt = v := by
  have := b8 (v + 128).toNat (by omega)
  rwa [show (((v + 128).toNat : Nat) : Int) - 128 = v by omega] at this
def ZBg (Z Z' : Ch) : Prop := ∀ c k, ¬ (c = 0 ∧ 10 ≤ k ∧ k ≤ 19 ∧ k ≠ 16) → c ≠ 7 → Z' c k = Z c k
theorem startT_0 (T : Ch) (L : Nat) : startT T L 0 2 = 0 ∧ startT T L 0 10 = 0 := by
  unfold startT
  refine ⟨?_, upd2_same _ _ _ _⟩
  rw [upd2_k _ _ (by decide), upd2_same]
theorem r_begins {l : Launch} {E : EnvT} {d : Nat} {K : AV → Mem → Prop} {M : Mem} {F Z T : Ch} {A : Nat → Int} {n mo : Int} (hd : 4 ≤ d) (hX : XBn (F 2)) (hXR : XR F Z) (t1 : 0 ≤ F 0 16) (t2 : F 0 16 ≤ 900) (hT : TG T) (n1 : -2147483648 ≤ n) (n2 : n < 2147483648) (m1 : 0 ≤ mo) (m2 : mo ≤ 900) (hn : ¬ (0 ≤ n ∧ n ≤ F 0 16 ∧ n ≤ mo) → K (.int (iN 0), 0) (zA M Z A)) (hy : ∀ L : Nat, n = L → n ≤ F 0 16 → n ≤ mo → ∀ Z', ZBg Z Z' → Z' 0 10 = 0 → OKT (F 2) L 0 (advT (F 2) L (startT T L)) Z' → K (.int (iN 1), 0) (zA M Z' A)) : CT l E d m_Mod_begins [(.ref 24, 41), (.int (iN n), 0), (.int (iN mo), 0)] (zA M Z A) K := by
  refine CT.of pn_Mod (Nat.le_of_ble_eq_true rfl) ?_
  refine b_Mod_begins_0 (by omega) ?_
  rw [zA_0, hXR.1, iN_lt0 n1 n2, iN_lt (by omega) (by omega) n1 n2, iN_le n1 n2 (by omega) (by omega), iN_small n1 n2, zA_u0]
  refine ⟨fun c => ⟨z01, hn (by omega)⟩, fun c => ⟨fun c2 => ⟨z01, hn (by omega)⟩, fun c2 => ⟨fun c3 => ?_, fun c3 => ⟨z01, hn (by omega)⟩⟩⟩⟩
  obtain ⟨L, rfl⟩ : ∃ L : Nat, n = L := ⟨n.toNat, (by omega)⟩
  have hy := hy L rfl (by omega) (by omega)
  have L9 : L ≤ 900 := (by omega)
  have key : ∀ (f k : Nat) (Y : Ch), k + f = L → Y 0 11 = L → (∀ c j, ¬ (c = 0 ∧ j = 11) → c ≠ 7 → Y c j = Z c j) → (∀ j, j < k → Y 7 j = F 2 j) → G l E d m_Mod_begins 26 [(0, (.ref 24, 41)), (1, (.int (iN (L : Int)), 0)), (3, (.int (iN (k : Int)), 0))] [] (zA M Y A) K := by
    intro f
    induction f with
    | zero =>
      intro k Y e1 e2 e3 e4
      have : k = L := (by omega)
      subst this
      refine b_Mod_begins_26 (by omega) ⟨fun _ => ?_, fun c => absurd ((iN_le (by omega) (by omega) (by omega) (by omega)).mpr (by omega)) c⟩
      rw [iN_0I, iN_m1I]
      simp only [zA_u0]
      have s0 := startT_0 T k
      have tx : TX (F 2) k (upd2 (upd2 (upd2 (upd2 (upd2 Y 0 10 0) 0 18 0) 0 17 (-1)) 0 14 0) 0 19 0) := by
        refine ⟨?_, fun j hj => ?_⟩
        · rw [upd2_k _ _ (by decide), upd2_k _ _ (by decide), upd2_k _ _ (by decide), upd2_k _ _ (by decide), upd2_k _ _ (by decide)]; exact e2
        · rw [upd2_c _ _ (by decide), upd2_c _ _ (by decide), upd2_c _ _ (by decide), upd2_c _ _ (by decide), upd2_c _ _ (by decide)]; exact e4 j hj
      have ts := TI_start (L := k) hT
      have ap := adv_pos (F 2) k (startT T k) (by omega)
      refine r_ahead (T := startT T k) (by omega) hX L9 (by omega) (by omega) ?_ tx (fun Z' z1 z2 => ⟨o01, hy Z' (fun c j q1 q2 => ?_) ?_ ⟨z2, adv_TI L9 hX ts, ⟨?_, ?_⟩, by rw [adv_10]; exact s0.2, (by omega), (by omega)⟩⟩)
      · rw [upd2_k _ _ (by decide), upd2_same]; exact s0.1.symm
      · rw [z1 c j (by omega), upd2_nn _ (by omega), upd2_nn _ (by omega), upd2_nn _ (by omega), upd2_nn _ (by omega), upd2_nn _ (by omega)]
        exact e3 c j (by omega) q2
      · rw [z1 0 10 (by omega), upd2_k _ _ (by decide), upd2_k _ _ (by decide), upd2_k _ _ (by decide), upd2_k _ _ (by decide), upd2_same]
      · rw [z1 0 18 (by omega), upd2_k _ _ (by decide), upd2_k _ _ (by decide), upd2_k _ _ (by decide), upd2_same]
      · rw [z1 0 17 (by omega), upd2_k _ _ (by decide), upd2_k _ _ (by decide), upd2_same]
    | succ f ih =>
      intro k Y e1 e2 e3 e4
      have xk := hX k (by omega)
      refine b_Mod_begins_26 (by omega) ⟨fun c => absurd ((iN_le (by omega) (by omega) (by omega) (by omega)).mp c) (by omega), fun _ => ⟨iN_in (by omega) (by omega) (by omega), iN_in (by omega) (by omega) (by omega), ?_⟩⟩
      rw [iN_add, iN_clN (by omega), zA_c M Y A (show 6 ≠ 1 by decide), e3 6 k (by omega) (by decide), hXR.2 k (by omega), b8v xk.1 xk.2, zA_uo M Y A (show 7 ≠ 1 by decide)]
      refine ih (k + 1) _ (by omega) (by rw [upd2_c _ _ (by decide)]; exact e2) (fun c j q1 q2 => by rw [upd2_c _ _ q2]; exact e3 c j q1 q2) (fun j hj => ?_)
      rw [upd2_at]
      split
      · rename_i q; rw [q]
      · exact e4 j (by omega)
  exact key L 0 _ (by omega) (upd2_same _ _ _ _) (fun c j q1 q2 => upd2_nn _ (by omega)) (fun j hj => absurd hj (by omega))
theorem r_taken {l : Launch} {E : EnvT} {d : Nat} {K : AV → Mem → Prop} {M : Mem} {Z : Ch} {A : Nat → Int} {x : Int32} (hd : 2 ≤ d) (f1 : 0 ≤ Z 0 18) (f2 : Z 0 18 ≤ 9) (h0 : Z 0 18 = 0 → K (.int x, 0) (zA M (sZ (upd2 Z 0 16 0) 0) A)) (h9 : Z 0 18 ≠ 0 → K (.int (iN (-1)), 0) (zA M (sZ (upd2 Z 0 16 (Z 0 18)) 9) A)) : CT l E d m_Mod_taken [(.ref 24, 41), (.int x, 0)] (zA M Z A) K := by
  refine CT.of pn_Mod (Nat.le_of_ble_eq_true rfl) ?_
  refine b_Mod_taken_0 (by omega) ?_
  simp only [zA_0, zA_u0]
  rw [iN_small (by omega) (by omega), upd2_k _ _ (show 18 ≠ 16 by decide), iN_le0 (by omega) (by omega)]
  refine ⟨fun c => r_gives (by omega) ?_, fun c => r_refuse (by omega) (by omega) (by omega) (h9 (by omega))⟩
  have z : Z 0 18 = 0 := (by omega)
  rw [z]
  exact h0 z
/-- the choir's text: what may change in the reference by then; k0: the first names that keep -/
def ZQ (k0 : Nat) (Z Z' : Ch) : Prop := ∀ c k, ¬ (c = 0 ∧ 10 ≤ k ∧ k ≤ 21) → c ≠ 7 → ¬ (c = 2 ∧ (k < k0 ∨ (32 ≤ k ∧ k < 40))) → Z' c k = Z c k
set_option maxHeartbeats 2000000 in
theorem r_choir {l : Launch} {E : EnvT} {d : Nat} {K : AV → Mem → Prop} {M : Mem} {F Z H T S : Ch} {A : Nat → Int} {n : Int} (hd : 12 ≤ d) (hX : XBn (F 2)) (hXR : XR F Z) (t1 : 0 ≤ F 0 16) (t2 : F 0 16 ≤ 900) (hT : TG T) (hS : VB S) (n1 : -2147483648 ≤ n) (n2 : n < 2147483648) (hn : ¬ (0 ≤ n ∧ n ≤ F 0 16) → K (.int (iN (-1)), 0) (zA M (sZ Z 1) A)) (h9 : ∀ L : Nat, n = L → n ≤ F 0 16 → (rAll (F 2) L H T S).1 = false → ∀ (Z' : Ch) (A' : Nat → Int), ZQ 0 Z Z' → (∀ j, j < 2408 → A' j = A j) → Z' 0 21 = 0 → Z' 0 10 = 0 → Z' 0 16 = (rAll (F 2) L H T S).2.2.1 0 10 → Z' 0 17 = (rAll (F 2) L H T S).2.2.1 0 4 → 1 ≤ (rAll (F 2) L H T S).2.2.1 0 10 → K (.int (iN (-1)), 0) (zA M (sZ Z' 9) A')) (hy : ∀ L : Nat, n = L → n ≤ F 0 16 → (rAll (F 2) L H T S).1 = true → ∀ (Z' : Ch) (A' : Nat → Int), ZQ 8 Z Z' → (∀ j, 602 ≤ j → j < 2408 → A' j = A j) → Z' 0 21 = 0 → Z' 0 10 = 0 → Z' 0 16 = 0 → Z' 0 17 = -1 → (rAll (F 2) L H T S).2.2.1 0 10 = 0 → WC (rAll (F 2) L H T S).2.2.2 → RR (rAll (F 2) L H T S).2.2.2 A' 0 → NR (rAll (F 2) L H T S).2.2.2 Z' 0 → A' 4 = -1 → K (.int (iN ((rAll (F 2) L H T S).2.2.2 0 8)), 0) (zA M (sZ Z' 0) A')) : CT l E d m_Mod_choir [(.ref 24, 41), (.int (iN n), 0)] (zA M Z A) K := by
  refine CT.of pn_Mod (Nat.le_of_ble_eq_true rfl) ?_
  refine b_Mod_choir_0 (by omega) (r_begins (mo := 900) (by omega) hX hXR t1 t2 hT n1 n2 (by omega) (by omega) (fun c => ?_) (fun L hL c1 c2 Z1 z1 z10 ok1 => ?_))
  · rw [toI_int]
    exact ⟨fun c => absurd (by decide +kernel) c, fun _ => r_refuse (by omega) (by omega) (by omega) (hn (by omega))⟩
  have L9 : L ≤ 900 := (by omega)
  rw [toI_int]
  refine ⟨fun _ => r_plain (B := 2408) (by omega) (by omega) (fun A1 pl => ?_), fun c => absurd c (by decide +kernel)⟩
  rw [iN_0I, iN_small (z := 2408) (by omega) (by omega), zA_u0, zA_u0]
  have h9 := h9 L hL c1
  have hy := hy L hL c1
  unfold rAll at h9 hy
  generalize hRR : rAllF (F 2) L (L + 1) (upd2 H 0 1 0) (advT (F 2) L (startT T L)) (emptyC S) = R at h9 hy
  have bad : ∀ (Z2 : Ch) (A2 : Nat → Int), R.1 = false → (∀ c k, ¬ (c = 0 ∧ 10 ≤ k ∧ k ≤ 21) → c ≠ 7 → ¬ (c = 2 ∧ 32 ≤ k ∧ k < 40) → Z2 c k = Z c k) → (∀ j, j < 2408 → A2 j = A j) → Z2 0 10 = 0 → FZ R.2.2.1 Z2 → G l E d m_Mod_choir 38 [(0, (.ref 24, 41)), (2, (.int (iN 0), 0))] [] (zA M Z2 A2) K := by
    intro Z2 A2 q1 q2 q3 q4 q5
    obtain ⟨g1, g2, g3, g4, g5, g6⟩ := q5
    refine b_Mod_choir_38 (by omega) ⟨fun _ => ?_, fun c => absurd (by decide +kernel) c⟩
    rw [iN_0I]
    simp only [zA_u0, zA_0]
    rw [upd2_k _ _ (show 18 ≠ 21 by decide), g1, iN_eq0 (by omega) (by omega)]
    have e18 : upd2 Z2 0 21 0 0 18 = R.2.2.1 0 10 := by rw [upd2_k _ _ (by decide)]; exact g1
    refine ⟨fun _ => ⟨inA (by omega) (by omega), r_taken (by omega) (by rw [e18]; omega) (by rw [e18]; omega) (fun c => absurd c (by rw [e18]; omega)) (fun _ => ?_)⟩, fun c => absurd c (by omega)⟩
    rw [e18]
    refine h9 q1 _ A2 (fun c k a1 a2 a3 => ?_) q3 ?_ ?_ (upd2_same _ _ _ _) ?_ g3
    · rw [upd2_nn _ (by omega), upd2_nn _ (by omega)]
      exact q2 c k a1 a2 (by omega)
    · rw [upd2_k _ _ (by decide), upd2_same]
    · rw [upd2_k _ _ (by decide), upd2_k _ _ (by decide)]; exact q4
    · rw [upd2_k _ _ (by decide), upd2_k _ _ (by decide)]; exact g2
  have good : ∀ (Z2 : Ch) (A2 : Nat → Int), R.1 = true → (∀ c k, ¬ (c = 0 ∧ 10 ≤ k ∧ k ≤ 21) → c ≠ 7 → ¬ (c = 2 ∧ 32 ≤ k ∧ k < 40) → Z2 c k = Z c k) → FrN A A2 ∨ (∀ j, j < 2408 → A2 j = A j) → A2 2412 = -1 → Z2 0 21 = 0 → Z2 0 10 = 0 → Z2 0 18 = 0 → Z2 0 17 = -1 → R.2.2.1 0 10 = 0 → PQ R.2.2.2 Z2 A2 → G l E d m_Mod_choir 71 [(0, (.ref 24, 41)), (3, (.int (iN 0), 0))] [] (zA M Z2 A2) K := by
    intro Z2 A2 q1 q2 q3 q12 q4 q5 q6 q7 q8 q9
    obtain ⟨w1, w2, w3, w4, w5⟩ := q9
    have q3 : ∀ j, j < 2408 → A2 j = A j := by
      rcases q3 with q | q
      · exact fun j hj => q j (Or.inl hj)
      · exact q
    have nm : ∀ (f k : Nat) (Y : Ch) (A3 : Nat → Int), k + f = 8 → (∀ j, A3 j = if j < 602 then wr (A2 (2408 + j)) else A2 j) → (∀ c j, ¬ (c = 2 ∧ j < k) → Y c j = Z2 c j) → (∀ j, j < k → Y 2 j = (lI (Z2 2 (32 + j))).toInt) → G l E d m_Mod_choir 102 [(0, (.ref 24, 41)), (3, (.int (iN (k : Int)), 0))] [] (zA M Y A3) K := by
      intro f
      induction f with
      | zero =>
        intro k Y A3 e1 e2 e3 e4
        have : k = 8 := (by omega)
        subst this
        have z0 : ∀ j, Y 0 j = Z2 0 j := fun j => e3 0 j (by omega)
        have R0 : RR R.2.2.2 A3 0 := RR_cp (B := 2408) (B' := 0) w1.1 w3 (fun j hj => by rw [Nat.zero_add, e2, if_pos (by omega)])
        have n0 := w1.1.n
        refine b_Mod_choir_102 (by omega) ⟨fun _ => ⟨inA (by omega) (by omega), ?_⟩, fun c => absurd ((iN_le (by omega) (by omega) (by omega) (by omega)).mpr (by omega)) c⟩
        rw [zA_1, clA (z := 0) (j := 0) rfl (by omega)]
        have a0 : A3 0 = R.2.2.2 0 8 := R0.1.1
        rw [a0]
        refine r_taken (by omega) (by rw [z0, q6]; omega) (by rw [z0, q6]; omega) (fun _ => ?_) (fun c => absurd (by rw [z0]; exact q6) c)
        refine hy q1 _ A3 (fun c k a1 a2 a3 => ?_) (fun j j1 j2 => ?_) ?_ ?_ (upd2_same _ _ _ _) ?_ q8 w1 R0 (fun s hs => ?_) ?_
        · rw [upd2_nn _ (by omega), e3 c k (by omega)]
          exact q2 c k a1 a2 (by omega)
        · rw [e2, if_neg (by omega)]; exact q3 j j2
        · rw [upd2_k _ _ (by decide), z0]; exact q4
        · rw [upd2_k _ _ (by decide), z0]; exact q5
        · rw [upd2_k _ _ (by decide), z0]; exact q7
        · rw [upd2_c _ _ (by decide), Nat.zero_add, e4 s (by omega)]
          have p := w5 s hs
          have pr := p.rng
          rw [lI_small (by omega) (by omega)]
          exact p
        · rw [e2, if_pos (by omega), q12]
          exact wr_id (by omega) (by omega)
      | succ f ih =>
        intro k Y A3 e1 e2 e3 e4
        refine b_Mod_choir_102 (by omega) ⟨fun c => absurd ((iN_le (by omega) (by omega) (by omega) (by omega)).mp c) (by omega), fun _ => ?_⟩
        rw [iN_add, iN_add, cl4 (z := 32 + (k : Int)) (j := 32 + k) (by omega) (by omega), iN_clN (by omega), zA_c M Y A3 (show 2 ≠ 1 by decide), e3 2 (32 + k) (by omega), zA_uo M Y A3 (show 2 ≠ 1 by decide)]
        refine ⟨iN_in (by omega) (by omega) (by omega), iN_in (by omega) (by omega) (by omega), ih (k + 1) _ A3 (by omega) e2 (fun c j q => ?_) (fun j hj => ?_)⟩
        · rw [upd2_nn _ (by omega)]; exact e3 c j (by omega)
        · rw [upd2_at]
          split
          · rename_i q; rw [q]
          · exact e4 j (by omega)
    have cp : ∀ (f k : Nat) (A3 : Nat → Int), k + f = 602 → (∀ j, A3 j = if j < k then wr (A2 (2408 + j)) else A2 j) → G l E d m_Mod_choir 71 [(0, (.ref 24, 41)), (3, (.int (iN (k : Int)), 0))] [] (zA M Z2 A3) K := by
      intro f
      induction f with
      | zero =>
        intro k A3 e1 e2
        have : k = 602 := (by omega)
        subst this
        exact b_Mod_choir_71 (by omega) ⟨fun _ => nm 8 0 Z2 A3 (by omega) e2 (fun _ _ _ => rfl) (fun j hj => absurd hj (by omega)), fun c => absurd ((iN_le (by omega) (by omega) (by omega) (by omega)).mpr (by omega)) c⟩
      | succ f ih =>
        intro k A3 e1 e2
        refine b_Mod_choir_71 (by omega) ⟨fun c => absurd ((iN_le (by omega) (by omega) (by omega) (by omega)).mp c) (by omega), fun _ => ?_⟩
        rw [iN_add, iN_add]
        refine ⟨inA (by omega) (by omega), inA (by omega) (by omega), ?_⟩
        rw [clA (z := 2408 + (k : Int)) (j := 2408 + k) (by omega) (by omega), clA (z := (k : Int)) (j := k) rfl (by omega), zA_1, zA_u, e2, if_neg (by omega)]
        refine ih (k + 1) _ (by omega) (fun j => ?_)
        rw [updP_at, e2]
        by_cases q : j = k
        · rw [if_pos q, if_pos (by omega), q]; rfl
        · rw [if_neg q]
          by_cases q2 : j < k
          · rw [if_pos q2, if_pos (by omega)]
          · rw [if_neg q2, if_neg (by omega)]
    exact cp 602 0 A2 (by omega) (fun j => by rw [if_neg (by omega)])
  have loop : ∀ (m : Nat) (p : Int) (H2 T2 C2 Z2 : Ch) (A2 : Nat → Int), rAllF (F 2) L m H2 T2 C2 = R → (L : Int) + 1 ≤ T2 0 4 + m → OKT (F 2) L p T2 Z2 → PQ C2 Z2 A2 → Z2 0 21 = 2408 → Z2 0 20 = H2 0 1 → (H2 0 1 = 0 ∨ H2 0 1 = 1) → (∀ c k, ¬ (c = 0 ∧ 10 ≤ k ∧ k ≤ 21) → c ≠ 7 → ¬ (c = 2 ∧ 32 ≤ k ∧ k < 40) → Z2 c k = Z c k) → (∀ j, j < 2408 → A2 j = A j) → A2 2412 = -1 → Z2 0 10 = 0 → G l E d m_Mod_choir 38 [(0, (.ref 24, 41)), (2, (.int (iN 1), 0))] [] (zA M Z2 A2) K := by
    intro m
    induction m with
    | zero =>
      intro p H2 T2 C2 Z2 A2 hr hm ok
      have := ok.2.2.2.2.2
      have := ok.2.1.2.2.1.2
      push_cast at hm
      omega
    | succ m ih =>
      intro p H2 T2 C2 Z2 A2 hr hm ok pq hB hH h01 hz hA h12 h10
      have he : rAllF (F 2) L (m + 1) H2 T2 C2 = if T2 0 3 = 0 then (true, H2, T2, C2) else if (rPart (F 2) L H2 T2 C2).1 = true then rAllF (F 2) L m (rPA H2 T2) (advT (F 2) L (rPart (F 2) L H2 T2 C2).2.1) (rPart (F 2) L H2 T2 C2).2.2 else (false, rPA H2 T2, (rPart (F 2) L H2 T2 C2).2.1, (rPart (F 2) L H2 T2 C2).2.2) := rfl
      rw [he] at hr
      have a3 := ok.2.1.2.2.2.1
      have tk := (tk_iff a3.1 a3.2).2.2.2.2
      have h2 := fun c k => hz c k
      refine b_Mod_choir_38 (by omega) ⟨fun c => absurd c (by decide +kernel), fun _ => ?_⟩
      rw [zA_0, ok.1.2.2.1, show (iN (tkR (T2 0 3)) = 0) = (iN (tkR (T2 0 3)) = iN 0) from rfl, tk]
      refine ⟨fun k0 => ?_, fun k0 => ?_⟩
      · rw [if_pos k0] at hr
        rw [iN_0I]
        simp only [zA_u0, zA_0]
        have e18 : upd2 Z2 0 21 0 0 18 = 0 := by rw [upd2_k _ _ (by decide)]; exact ok.2.2.1.1
        rw [e18]
        refine ⟨fun c => absurd (by decide +kernel) c, fun _ => ?_⟩
        rw [← hr] at good
        refine good _ A2 rfl (fun c k a1 a2 a3 => by rw [upd2_nn _ (by omega)]; exact hz c k a1 a2 a3) (Or.inr hA) h12 (upd2_same _ _ _ _) ?_ e18 ?_ ok.2.2.2.1 ⟨pq.1, pq.2.1, pq.2.2.1, pq.2.2.2.1, fun s hs => ?_⟩
        · rw [upd2_k _ _ (by decide)]; exact h10
        · rw [upd2_k _ _ (by decide)]; exact ok.2.2.1.2
        · rw [upd2_c _ _ (by decide)]
          exact pq.2.2.2.2 s hs
      · rw [if_neg k0] at hr
        refine r_choirPart (H := H2) (by omega) hX L9 ok hB hH h01 pq (fun q Z3 A3 z3 f3 ok3 pq3 => ?_) (fun q Z3 A3 z3 f3 fz => ?_)
        · rw [if_pos q] at hr
          rw [toI_int]
          refine ih _ _ _ _ Z3 A3 hr ?_ ok3 pq3 ?_ ?_ ?_ (fun c k a1 a2 a3 => ?_) (fun j hj => ?_) ?_ ?_
          · have := ok3.2.2.2.2.1
            push_cast at hm
            omega
          · rw [z3 0 21 (by omega) (by omega), upd2_k _ _ (by decide)]; exact hB
          · rw [z3 0 20 (by omega) (by omega), upd2_same]
          · unfold rPA
            split
            · rw [upd2_same]; exact Or.inr rfl
            · exact h01
          · rw [z3 c k (by omega) a3, upd2_nn _ (by omega)]; exact hz c k a1 a2 a3
          · rw [f3 j (Or.inl hj)]; exact hA j hj
          · rw [f3 _ (Or.inr rfl)]; exact h12
          · rw [z3 0 10 (by omega) (by omega), upd2_k _ _ (by decide)]; exact h10
        · rw [if_neg (by rw [q]; decide)] at hr
          rw [← hr] at bad
          rw [toI_int]
          refine bad Z3 A3 rfl (fun c k a1 a2 a3 => ?_) (fun j hj => ?_) ?_ fz
          · rw [z3 c k (by omega) a3, upd2_nn _ (by omega)]; exact hz c k a1 a2 a3
          · rw [f3 j (Or.inl hj)]; exact hA j hj
          · rw [z3 0 10 (by omega) (by omega), upd2_k _ _ (by decide)]; exact h10
  have okz : OKT (F 2) L 0 (advT (F 2) L (startT T L)) (upd2 (upd2 Z1 0 20 0) 0 21 2408) := by
    obtain ⟨⟨⟨x1, x2⟩, y1, y2, y3, y4, y5, y6, y7, y8⟩, ti, z18, t10, gp⟩ := ok1
    have e : ∀ k, k < 20 → upd2 (upd2 Z1 0 20 0) 0 21 2408 0 k = Z1 0 k := fun k hk => by rw [upd2_k _ _ (by omega), upd2_k _ _ (by omega)]
    have e7 : upd2 (upd2 Z1 0 20 0) 0 21 2408 7 = Z1 7 := by rw [upd2_c _ _ (by decide), upd2_c _ _ (by decide)]
    refine ⟨⟨⟨by rw [e 11 (by omega)]; exact x1, fun j hj => by rw [e7]; exact x2 j hj⟩, by rw [e 13 (by omega)]; exact y1, by rw [e 12 (by omega)]; exact y2, by rw [e 14 (by omega)]; exact y3, by rw [e 15 (by omega)]; exact y4, by rw [e 15 (by omega)]; exact y5, y6, y7, by rw [e 15 (by omega)]; exact y8⟩, ti, by rw [e 18 (by omega), e 17 (by omega)]; exact z18, t10, gp⟩
  obtain ⟨p1, p2, p3, p4⟩ := pl
  have e8 : emptyC S 0 8 = 0 := by simp [emptyC, upd2]
  refine loop (L + 1) 0 _ _ (emptyC S) _ A1 hRR ?_ okz ⟨WC_empty hS, by simp [emptyC, upd2], RR_empty ⟨p1, p2, p3, p4⟩, fun s q1 q2 j q3 => ?_, fun s hs => ?_⟩ (upd2_same _ _ _ _) ?_ (Or.inl (upd2_same _ _ _ _)) (fun c k a1 a2 a3 => ?_) (fun j hj => p1 j (by omega)) p2 ?_
  · have := ok1.2.2.2.2.1
    push_cast
    omega
  · rw [show 2414 + 8 * s + j = 2408 + (6 + 8 * s + j) by omega]
    exact p4 (6 + 8 * s + j) (by omega) (by omega) (by omega)
  · rw [e8] at hs; omega
  · rw [upd2_k _ _ (by decide), upd2_same, upd2_same]
  · rw [upd2_nn _ (by omega), upd2_nn _ (by omega)]
    exact z1 c k (by omega) a2
  · rw [upd2_k _ _ (by decide), upd2_k _ _ (by decide)]; exact z10
