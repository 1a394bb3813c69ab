def tokW (T : Ch) (p n w : Int) : Ch := upd2 (upd2 (upd2 T 0 9 w) 0 7 n) 0 2 p
theorem tokW_up (T : Ch) (p n w p2 n2 w2 : Int) : upd2 (upd2 (upd2 (tokW T p n w) 0 9 w2) 0 7 n2) 0 2 p2 = tokW T p2 n2 w2 := by
  funext c k
  unfold tokW upd2
  by_cases e2 : c = 0 ∧ k = 2
  · simp [e2]
  · by_cases e7 : c = 0 ∧ k = 7
    · simp [e7]
    · by_cases e9 : c = 0 ∧ k = 9
      · simp [e9]
      · simp [e2, e7, e9]
theorem tokW_up2 (T : Ch) (p n w p2 n2 : Int) : upd2 (upd2 (tokW T p n w) 0 7 n2) 0 2 p2 = tokW T p2 n2 w := by
  funext c k
  unfold tokW upd2
  by_cases e2 : c = 0 ∧ k = 2
  · simp [e2]
  · by_cases e7 : c = 0 ∧ k = 7
    · simp [e7]
    · by_cases e9 : c = 0 ∧ k = 9
      · simp [e9]
      · simp [e2, e7, e9]
theorem tokW_id (T : Ch) (n w : Int) : upd2 (upd2 T 0 9 w) 0 7 n = tokW T (T 0 2) n w := by
  funext c k
  unfold tokW upd2
  by_cases e2 : c = 0 ∧ k = 2
  · obtain ⟨rfl, rfl⟩ := e2; simp
  · simp [e2]
theorem tokW_k (T : Ch) (p n w : Int) {k : Nat} (h2 : k ≠ 2) (h7 : k ≠ 7) (h9 : k ≠ 9) : tokW T p n w 0 k = T 0 k := by
  unfold tokW
  rw [upd2_k _ _ h2, upd2_k _ _ h7, upd2_k _ _ h9]
theorem tokW_2 (T : Ch) (p n w : Int) : tokW T p n w 0 2 = p := by simp [tokW, upd2]
theorem tokW_7 (T : Ch) (p n w : Int) : tokW T p n w 0 7 = n := by simp [tokW, upd2]
theorem tokW_9 (T : Ch) (p n w : Int) : tokW T p n w 0 9 = w := by simp [tokW, upd2]
def rwF (X : Nat → Int) : Nat → Nat → Nat → Int → Nat × Nat × Int
  | 0, p, n, w => (p, n, w)
  | m + 1, p, n, w => if 97 ≤ X p ∧ X p ≤ 122 then rwF X m (p + 1) (n + 1) (if n < 8 then w * 27 + X p - 96 else w) else (p, n, w)
def wordT (X : Nat → Int) (L : Nat) (T : Ch) : Ch := tokW T (rwF X (L - (T 0 2).toNat) (T 0 2).toNat 0 0).1 (rwF X (L - (T 0 2).toNat) (T 0 2).toNat 0 0).2.1 (rwF X (L - (T 0 2).toNat) (T 0 2).toNat 0 0).2.2
theorem cl02 : (0, 2) ∈ CL := by decide +kernel
theorem c_readWord {l : Launch} {E : EnvT} {d : Nat} {K : AV → Mem → Prop} {M : Mem} {r : Nat} {T : Ch} {L : Nat} (hd : 1 ≤ d) (hr : 0 ≠ r) (t0 : T 0 0 = 0) (t1 : T 0 1 = L) (L9 : L ≤ 900) (p1 : 0 ≤ T 0 2) (p2 : T 0 2 ≤ L) (hX : ∀ j, j < 900 → -128 ≤ M 0 2 j ∧ M 0 2 j ≤ 127) (h : K (.null, 0) (setR M r (wordT (M 0 2) L T))) : CT l E d m_Tokens_readWord [(.ref r, 4)] (setR M r T) K := by
  refine CT.of pn_Tokens (Nat.le_of_ble_eq_true rfl) ?_
  refine b_Tokens_readWord_0 hd ?_
  obtain ⟨q, hq⟩ : ∃ q : Nat, T 0 2 = q := ⟨(T 0 2).toNat, (by omega)⟩
  unfold wordT at h
  rw [hq, show ((q : Int)).toNat = q from rfl] at h
  have e0 : (lI 0).toInt = 0 := lI_small (by omega) (by omega)
  have key : ∀ (m p n : Nat) (w : Int), p + m = L → n ≤ p → 0 ≤ w → w < ((27 ^ (min n 8) : Nat) : Int) → rwF (M 0 2) m p n w = rwF (M 0 2) (L - q) q 0 0 → G l E d m_Tokens_readWord 10 [(0, (.ref r, 4))] [] (setR M r (tokW T p n w)) K := by
    intro m
    induction m with
    | zero =>
      intro p n w hp hn w0 w1 he
      refine b_Tokens_readWord_10 hd ⟨fun _ => ?_, fun c => absurd ?_ c⟩
      · rw [← he] at h
        exact h
      · rw [setR_same, tokW_k _ _ _ _ (by decide) (by decide) (by decide), tokW_2, t1]
        exact (iN_le (by omega) (by omega) (by omega) (by omega)).mpr (by omega)
    | succ m ih =>
      intro p n w hp hn w0 w1 he
      have he : (if 97 ≤ M 0 2 p ∧ M 0 2 p ≤ 122 then rwF (M 0 2) m (p + 1) (n + 1) (if n < 8 then w * 27 + M 0 2 p - 96 else w) else (p, n, w)) = _ := he
      have x1 := hX p (by omega)
      have wb : w < 282429536481 := by
        have : 27 ^ (min n 8) ≤ 27 ^ 8 := Nat.pow_le_pow_right (by decide) (by omega)
        have e : (27 : Nat) ^ 8 = 282429536481 := by decide
        omega
      refine b_Tokens_readWord_10 hd ⟨fun c => absurd c ?_, fun _ => ?_⟩
      · rw [setR_same, tokW_k _ _ _ _ (by decide) (by decide) (by decide), tokW_2, t1, iN_le (by omega) (by omega) (by omega) (by omega)]; omega
      · simp only [setR_same, tokW_k T p n w (show 0 ≠ 2 by decide) (show 0 ≠ 7 by decide) (show 0 ≠ 9 by decide), tokW_2, tokW_7, tokW_9, t0, show ((0 : Int)).toNat = 0 from rfl, setR_ne M _ hr, iN_clN (show (p : Int) < 2147483648 by omega), upd3_setR, setR_setR, upd2_k _ _ (show 2 ≠ 7 by decide), upd2_k _ _ (show 7 ≠ 9 by decide), upd2_k _ _ (show 2 ≠ 9 by decide), iN_add, iN_lt (show -2147483648 ≤ M 0 2 p by omega) (show M 0 2 p < 2147483648 by omega) (show (-2147483648 : Int) ≤ 97 by omega) (show (97 : Int) < 2147483648 by omega), iN_lt (show (-2147483648 : Int) ≤ 122 by omega) (show (122 : Int) < 2147483648 by omega) (show -2147483648 ≤ M 0 2 p by omega) (show M 0 2 p < 2147483648 by omega), iN_le (show (-2147483648 : Int) ≤ 8 by omega) (show (8 : Int) < 2147483648 by omega) (show -2147483648 ≤ (n : Int) by omega) (show (n : Int) < 2147483648 by omega), iN_toL (show -2147483648 ≤ M 0 2 p by omega) (show M 0 2 p < 2147483648 by omega), lI_mul, lI_add, lI_sub, tokW_up2]
        refine ⟨cl02, iN_in (by omega) (by omega) (by omega), fun c => ?_, fun c => ⟨cl02, iN_in (by omega) (by omega) (by omega), fun c2 => ?_, fun c2 => ?_⟩⟩
        · rw [if_neg (by omega)] at he
          rw [← he] at h
          exact h
        · rw [if_neg (by omega)] at he
          rw [← he] at h
          exact h
        · rw [if_pos (by omega)] at he
          refine ⟨fun c3 => ?_, fun c3 => ⟨cl02, iN_in (by omega) (by omega) (by omega), ?_⟩⟩
          · rw [if_neg (by omega)] at he
            rw [iN_small (by omega) (by omega), iN_small (by omega) (by omega)]
            refine ih (p + 1) (n + 1) w (by omega) (by omega) w0 ?_ he
            rw [show min (n + 1) 8 = min n 8 by omega]
            exact w1
          · rw [if_pos (by omega)] at he
            rw [lI_small (by omega) (by omega), iN_small (by omega) (by omega), iN_small (by omega) (by omega), tokW_up]
            refine ih (p + 1) (n + 1) _ (by omega) (by omega) (by omega) ?_ he
            rw [show min n 8 = n by omega] at w1
            rw [show min (n + 1) 8 = n + 1 by omega, Nat.pow_succ]
            push_cast at w1 ⊢
            generalize (27 : Int) ^ n = P at w1
            omega
  rw [upd3_setR, upd3_setR, setR_same, setR_setR, setR_same, setR_setR, e0, iN_0I, tokW_id, hq]
  exact key (L - q) q 0 0 (by omega) (by omega) (by omega) (by decide) rfl
