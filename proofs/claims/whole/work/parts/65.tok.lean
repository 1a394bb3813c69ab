theorem lI_add (a b : Int) : lI a + lI b = lI (a + b) := (Int64.ofInt_add a b).symm
theorem lI_sub (a b : Int) : lI a - lI b = lI (a - b) := (Int64.ofInt_sub a b).symm
theorem lI_mul (a b : Int) : lI a * lI b = lI (a * b) := (Int64.ofInt_mul a b).symm
theorem lI_small {a : Int} (h1 : -9223372036854775808 ≤ a) (h2 : a < 9223372036854775808) : (lI a).toInt = a := Int64.toInt_ofInt_of_le h1 h2
theorem iN_toL {b : Int} (h1 : -2147483648 ≤ b) (h2 : b < 2147483648) : (iN b).toInt64 = lI b := by
  rw [← Int64.toInt_inj, iN_64 h1 h2, lI_small (by omega) (by omega)]
def kindF (b : Int) : Int := if 97 ≤ b ∧ b ≤ 122 then 1 else if 48 ≤ b ∧ b ≤ 57 then 2 else if b = 59 ∨ b = 60 ∨ b = 62 ∨ b = 61 then 3 else 4
theorem kindF_1 {b : Int} (h : 97 ≤ b ∧ b ≤ 122) : kindF b = 1 := if_pos h
theorem kindF_2 {b : Int} (h : 48 ≤ b ∧ b ≤ 57) : kindF b = 2 := by unfold kindF; rw [if_neg (by omega), if_pos h]
theorem kindF_3 {b : Int} (h : b = 59 ∨ b = 60 ∨ b = 62 ∨ b = 61) : kindF b = 3 := by unfold kindF; rw [if_neg (by omega), if_neg (by omega), if_pos h]
theorem kindF_4 {b : Int} (h1 : ¬ (97 ≤ b ∧ b ≤ 122)) (h2 : ¬ (48 ≤ b ∧ b ≤ 57)) (h3 : ¬ (b = 59 ∨ b = 60 ∨ b = 62 ∨ b = 61)) : kindF b = 4 := by unfold kindF; rw [if_neg h1, if_neg h2, if_neg h3]
theorem kindF_rng (b : Int) : 1 ≤ kindF b ∧ kindF b ≤ 4 := by
  unfold kindF
  split
  · omega
  · split
    · omega
    · split <;> omega
theorem c_kindOf {l : Launch} {E : EnvT} {d : Nat} {K : AV → Mem → Prop} {M : Mem} {b : Int} (hd : 1 ≤ d) (b1 : -128 ≤ b) (b2 : b ≤ 127) (h : K (.int (iN (kindF b)), 0) M) : CT l E d m_Tokens_kindOf [(.int (iN b), 0)] M K := by
  refine CT.of pn_Tokens (Nat.le_of_ble_eq_true rfl) ?_
  refine b_Tokens_kindOf_0 hd ?_
  simp (disch := omega) only [iN_lt, iN_eq]
  have sg : b < 48 ∨ 57 < b → b < 97 ∨ 122 < b → ((b = 59 → K (.int (iN 3), 0) M) ∧ (¬ b = 59 → ((b = 60 → K (.int (iN 3), 0) M) ∧ (¬ b = 60 → ((b = 62 → K (.int (iN 3), 0) M) ∧ (¬ b = 62 → ((¬ b = 61 → K (.int (iN 4), 0) M) ∧ (b = 61 → K (.int (iN 3), 0) M)))))))) := by
    intro q1 q2
    refine ⟨fun c => ?_, fun c1 => ⟨fun c => ?_, fun c2 => ⟨fun c => ?_, fun c3 => ⟨fun c4 => ?_, fun c => ?_⟩⟩⟩⟩
    · rw [kindF_3 (by omega)] at h; exact h
    · rw [kindF_3 (by omega)] at h; exact h
    · rw [kindF_3 (by omega)] at h; exact h
    · rw [kindF_4 (by omega) (by omega) (by omega)] at h; exact h
    · rw [kindF_3 (by omega)] at h; exact h
  refine ⟨fun c1 => ⟨fun c2 => sg (by omega) (by omega), fun c2 => ⟨fun c3 => sg (by omega) (by omega), fun c3 => ?_⟩⟩, fun c1 => ⟨fun c2 => ⟨fun c3 => sg (by omega) (by omega), fun c3 => ⟨fun c4 => sg (by omega) (by omega), fun c4 => ?_⟩⟩, fun c2 => ?_⟩⟩
  · rw [kindF_2 (by omega)] at h; exact h
  · omega
  · rw [kindF_1 (by omega)] at h; exact h
def kwF (x : Int64) : List Int32 → Int → Int64 → Int
  | [], _, _ => -1
  | c :: t, i, g => if c = iN 32 then (if g = x then i else kwF x t (i + 1) (lI 0)) else kwF x t i (g * lI 27 + c.toInt64 - lI 96)
theorem kw_drop {j : Nat} (h : j < 111) : (STRB.getD 0 []).drop j = (STRB.getD 0 []).getD j 0 :: (STRB.getD 0 []).drop (j + 1) := by
  have : ∀ j, j < 111 → (STRB.getD 0 []).drop j = (STRB.getD 0 []).getD j 0 :: (STRB.getD 0 []).drop (j + 1) := by decide +kernel
  exact this j h
theorem c_keywordOf {l : Launch} {E : EnvT} {d : Nat} {K : AV → Mem → Prop} {M : Mem} {x : Int64} (hd : 5 ≤ d) (h : K (.int (iN (kwF x (STRB.getD 0 []) 0 (lI 0))), 0) M) : CT l E d m_Tokens_keywordOf [(.long x, 0)] M K := by
  refine CT.of pn_Tokens (Nat.le_of_ble_eq_true rfl) ?_
  refine b_Tokens_keywordOf_0 (by omega) ?_
  have len : STRN.getD 0 0 = 111 := rfl
  have key : ∀ j : Nat, j ≤ 111 → ∀ (i : Int) (g : Int64), 0 ≤ i → i ≤ j → kwF x ((STRB.getD 0 []).drop j) i g = kwF x (STRB.getD 0 []) 0 (lI 0) → G l E d m_Tokens_keywordOf 7 [(0, (.long x, 0)), (2, (.int (iN i), 0)), (3, (.long g, 0)), (5, (.int (iN j), 0))] [] M K := by
    refine dn 111 (fun i g i1 i2 he => ?_) (fun j hj ih i g i1 i2 he => ?_)
    · refine b_Tokens_keywordOf_7 (by omega) (c_strLen (by omega) (by omega) ?_)
      rw [len, toI_int]
      refine ⟨fun _ => ?_, fun c => absurd ((iN_le (by omega) (by omega) (by omega) (by omega)).mpr (by omega)) c⟩
      have e0 : (STRB.getD 0 []).drop 111 = [] := by decide +kernel
      rw [e0] at he
      have he : (-1 : Int) = _ := he
      rw [← he] at h
      exact h
    · rw [kw_drop hj] at he
      refine b_Tokens_keywordOf_7 (by omega) (c_strLen (by omega) (by omega) ?_)
      rw [len, toI_int]
      refine ⟨fun c => absurd ((iN_le (by omega) (by omega) (by omega) (by omega)).mp c) (by omega), fun _ => c_charAt (by omega) (by omega) (by rw [len]; exact hj) ?_⟩
      rw [toI_int]
      generalize (STRB.getD 0 []).getD j 0 = c at he
      generalize hR : kwF x (STRB.getD 0 []) 0 (lI 0) = R at h he ih
      unfold kwF at he
      rw [lg_cmp_eq, iN_add, iN_add]
      refine ⟨fun c1 => ⟨fun c2 => ?_, fun c2 => ?_⟩, fun c1 => ?_⟩
      · rw [if_pos c1, if_neg c2] at he
        exact ih _ _ (by omega) (by push_cast; omega) he
      · rw [if_pos c1, if_pos c2] at he
        rw [← he] at h
        exact h
      · rw [if_neg c1] at he
        exact ih _ _ (by omega) (by push_cast; omega) he
  exact key 0 (by omega) 0 (lI 0) (by omega) (by omega) rfl
