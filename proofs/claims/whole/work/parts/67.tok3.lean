def tokN (T : Ch) (p v : Int) : Ch := upd2 (upd2 T 0 5 v) 0 2 p
theorem tokN_up (T : Ch) (p v p2 v2 : Int) : upd2 (upd2 (tokN T p v) 0 5 v2) 0 2 p2 = tokN T p2 v2 := by
  funext c k
  unfold tokN upd2
  by_cases e2 : c = 0 ∧ k = 2
  · simp [e2]
  · by_cases e5 : c = 0 ∧ k = 5
    · simp [e5]
    · simp [e2, e5]
theorem tokN_up2 (T : Ch) (p v p2 : Int) : upd2 (tokN T p v) 0 2 p2 = tokN T p2 v := by
  unfold tokN
  rw [upd2_twice]
theorem tokN_id (T : Ch) (v : Int) : upd2 T 0 5 v = tokN T (T 0 2) v := by
  funext c k
  unfold tokN upd2
  by_cases e2 : c = 0 ∧ k = 2
  · obtain ⟨rfl, rfl⟩ := e2; simp
  · simp [e2]
theorem tokN_k (T : Ch) (p v : Int) {k : Nat} (h2 : k ≠ 2) (h5 : k ≠ 5) : tokN T p v 0 k = T 0 k := by
  unfold tokN
  rw [upd2_k _ _ h2, upd2_k _ _ h5]
theorem tokN_2 (T : Ch) (p v : Int) : tokN T p v 0 2 = p := by simp [tokN, upd2]
theorem tokN_5 (T : Ch) (p v : Int) : tokN T p v 0 5 = v := by simp [tokN, upd2]
def rnF (X : Nat → Int) : Nat → Nat → Nat → Int → Nat × Nat × Int
  | 0, p, n, v => (p, n, v)
  | m + 1, p, n, v => if 48 ≤ X p ∧ X p ≤ 57 then rnF X m (p + 1) (n + 1) (if n < 4 then v * 10 + X p - 48 else v) else (p, n, v)
def numE (T : Ch) (q : Nat × Nat × Int) : Ch := if q.2.1 ≤ 4 then tokN T q.1 q.2.2 else upd2 (tokN T q.1 q.2.2) 0 3 4
def numT (X : Nat → Int) (L : Nat) (T : Ch) : Ch := numE T (rnF X (L - (T 0 2).toNat) (T 0 2).toNat 0 0)
theorem c_readNumber {l : Launch} {E : EnvT} {d : Nat} {K : AV → Mem → Prop} {M : Mem} {r : Nat} {T : Ch} {L : Nat} (hd : 1 ≤ d) (hr : 0 ≠ r) (t0 : T 0 0 = 0) (t1 : T 0 1 = L) (L9 : L ≤ 900) (p1 : 0 ≤ T 0 2) (p2 : T 0 2 ≤ L) (hX : ∀ j, j < 900 → -128 ≤ M 0 2 j ∧ M 0 2 j ≤ 127) (h : K (.null, 0) (setR M r (numT (M 0 2) L T))) : CT l E d m_Tokens_readNumber [(.ref r, 4)] (setR M r T) K := by
  refine CT.of pn_Tokens (Nat.le_of_ble_eq_true rfl) ?_
  refine b_Tokens_readNumber_0 hd ?_
  obtain ⟨q, hq⟩ : ∃ q : Nat, T 0 2 = q := ⟨(T 0 2).toNat, (by omega)⟩
  unfold numT at h
  rw [hq, show ((q : Int)).toNat = q from rfl] at h
  have i4 : (iN 4).toInt = 4 := iN_small (by omega) (by omega)
  have fin : ∀ (p n : Nat) (v : Int), n ≤ 900 → (p, n, v) = rnF (M 0 2) (L - q) q 0 0 → ((iN (n : Int) ≤ iN 4 → K (.null, 0) (setR M r (tokN T p v))) ∧ (¬ iN (n : Int) ≤ iN 4 → K (.null, 0) (setR M r (upd2 (tokN T p v) 0 3 4)))) := by
    intro p n v hn he
    rw [← he] at h
    unfold numE at h
    rw [iN_le (by omega) (by omega) (by omega) (by omega)]
    refine ⟨fun c => ?_, fun c => ?_⟩
    · rw [if_pos (show n ≤ 4 by omega)] at h; exact h
    · rw [if_neg (show ¬ n ≤ 4 by omega)] at h; exact h
  have key : ∀ (m p n : Nat) (v : Int), p + m = L → n ≤ p → 0 ≤ v → v < ((10 ^ (min n 4) : Nat) : Int) → rnF (M 0 2) m p n v = rnF (M 0 2) (L - q) q 0 0 → G l E d m_Tokens_readNumber 7 [(0, (.ref r, 4)), (1, (.int (iN n), 0))] [] (setR M r (tokN T p v)) K := by
    intro m
    induction m with
    | zero =>
      intro p n v hp hn v0 v1 he
      have f := fin p n v (by omega) he
      refine b_Tokens_readNumber_7 hd ⟨fun _ => ?_, fun c => absurd ?_ c⟩
      · rw [upd3_setR, setR_same, setR_setR, i4]
        exact f
      · rw [setR_same, tokN_k _ _ _ (by decide) (by decide), tokN_2, t1]
        exact (iN_le (by omega) (by omega) (by omega) (by omega)).mpr (by omega)
    | succ m ih =>
      intro p n v hp hn v0 v1 he
      have he : (if 48 ≤ M 0 2 p ∧ M 0 2 p ≤ 57 then rnF (M 0 2) m (p + 1) (n + 1) (if n < 4 then v * 10 + M 0 2 p - 48 else v) else (p, n, v)) = _ := he
      have x1 := hX p (by omega)
      have vb : v < 10000 := by
        have : 10 ^ (min n 4) ≤ 10 ^ 4 := Nat.pow_le_pow_right (by decide) (by omega)
        have e : (10 : Nat) ^ 4 = 10000 := by decide
        omega
      refine b_Tokens_readNumber_7 hd ⟨fun c => absurd c ?_, fun _ => ?_⟩
      · rw [setR_same, tokN_k _ _ _ (by decide) (by decide), tokN_2, t1, iN_le (by omega) (by omega) (by omega) (by omega)]; omega
      · simp only [setR_same, tokN_k T p v (show 0 ≠ 2 by decide) (show 0 ≠ 5 by decide), tokN_2, tokN_5, t0, show ((0 : Int)).toNat = 0 from rfl, setR_ne M _ hr, iN_clN (show (p : Int) < 2147483648 by omega), upd3_setR, setR_setR, upd2_k _ _ (show 2 ≠ 5 by decide), iN_add, iN_sub, iN_mul, iN_lt (show -2147483648 ≤ M 0 2 p by omega) (show M 0 2 p < 2147483648 by omega) (show (-2147483648 : Int) ≤ 48 by omega) (show (48 : Int) < 2147483648 by omega), iN_lt (show (-2147483648 : Int) ≤ 57 by omega) (show (57 : Int) < 2147483648 by omega) (show -2147483648 ≤ M 0 2 p by omega) (show M 0 2 p < 2147483648 by omega), i4, tokN_up2]
        refine ⟨cl02, iN_in (by omega) (by omega) (by omega), fun c => ?_, fun c => ⟨cl02, iN_in (by omega) (by omega) (by omega), fun c2 => ?_, fun c2 => ?_⟩⟩
        · rw [if_neg (by omega)] at he
          exact fin p n v (by omega) he
        · rw [if_neg (by omega)] at he
          exact fin p n v (by omega) he
        · rw [if_pos (by omega)] at he
          rw [iN_le (by omega) (by omega) (by omega) (by omega)]
          refine ⟨fun c3 => ?_, fun c3 => ⟨cl02, iN_in (by omega) (by omega) (by omega), ?_⟩⟩
          · rw [if_neg (by omega)] at he
            rw [iN_small (by omega) (by omega)]
            refine ih (p + 1) (n + 1) v (by omega) (by omega) v0 ?_ he
            rw [show min (n + 1) 4 = min n 4 by omega]
            exact v1
          · rw [if_pos (by omega)] at he
            rw [iN_small (by omega) (by omega), iN_small (by omega) (by omega), tokN_up]
            refine ih (p + 1) (n + 1) _ (by omega) (by omega) (by omega) ?_ he
            rw [show min n 4 = n by omega] at v1
            rw [show min (n + 1) 4 = n + 1 by omega, Nat.pow_succ]
            push_cast at v1 ⊢
            generalize (10 : Int) ^ n = P at v1
            omega
  rw [upd3_setR, setR_same, setR_setR, iN_0I, tokN_id, hq]
  exact key (L - q) q 0 0 (by omega) (by omega) (by omega) (by decide) rfl
