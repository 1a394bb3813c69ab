theorem nAnd_lt {x : Nat} (y : Nat) (h : x < 256) : nAnd x y < 256 := Nat.lt_of_le_of_lt Nat.and_le_left h
theorem or_lt {x y : Nat} (h1 : x < 256) (h2 : y < 256) : x ||| y < 256 := Nat.or_lt_two_pow (n := 8) h1 h2
theorem pow_lt {s : Nat} (h : s < 8) : 2 ^ s < 256 := Nat.pow_lt_pow_right (a := 2) (by decide) h
theorem ones_lt {n : Nat} (h : n ≤ 8) : 2 ^ n - 1 < 256 := by
  have : 2 ^ n ≤ 2 ^ 8 := Nat.pow_le_pow_right (by decide) h
  omega
def msk (p : Nat → Bool) : Nat → Nat
  | 0 => 0
  | k + 1 => if p k then msk p k ||| 2 ^ k else msk p k
theorem msk_lt (p : Nat → Bool) : ∀ k, k ≤ 8 → msk p k < 256
  | 0, _ => show 0 < 256 by decide
  | k + 1, h => by
    unfold msk
    have := msk_lt p k (by omega)
    split
    · exact or_lt this (pow_lt (by omega))
    · exact this
theorem setB_nat (m s : Nat) : setB (m : Int) s = ((m ||| 2 ^ s : Nat) : Int) := rfl
theorem inS_nat (m s : Nat) : inS (m : Int) s = m.testBit s := rfl
theorem iNn_toI {m : Nat} (h : m < 2147483648) : (iN (m : Int)).toInt = m := iN_small (by omega) (by omega)
def lkN (C : Ch) (a b : Nat) : Bool := decide (a ≠ b) && decide (0 < debtC C a b)
def lkA (C : Ch) (a b : Nat) : Bool := decide (a ≠ b) && decide (0 < owedC C a b)
def livM (C : Ch) (n : Nat) : Nat := nAnd (2 ^ n - 1) (C 0 12).toNat
def LKr (T C : Ch) (n a : Nat) : Prop := T 1 a = balC C a ∧ T 2 a = (msk (lkN C a) n : Nat) ∧ T 3 a = (msk (lkA C a) n : Nat)
def LK (T C : Ch) (n : Nat) : Prop := T 0 6 = n ∧ T 0 7 = (livM C n : Nat) ∧ ∀ a, a < n → LKr T C n a
theorem LKr_upd {T C : Ch} {n a a' : Nat} (c : Nat) (v : Int) (hne : a' ≠ a) (h : LKr T C n a') : LKr (upd2 T c a v) C n a' := by
  have e : ∀ c', upd2 T c a v c' a' = T c' a' := fun c' => by simp [upd2, hne]
  unfold LKr
  rw [e, e, e]
  exact h
theorem c_look {l : Launch} {E : EnvT} {d : Nat} {K : AV → Mem → Prop} {M : Mem} {r2 n : Nat} (hd : 4 ≤ d) (hr : r2 ≠ 12) (hV : VB (M r2)) (hn : M r2 0 8 = n) (h : ∀ T, LK T (M r2) n → K (.null, 0) (setR M 12 T)) : CT l E d m_Ties_look [(.ref 12, 30), (.ref r2, 11)] M K := by
  refine CT.of pn_Ties (Nat.le_of_ble_eq_true rfl) ?_
  refine b_Ties_look_0 (by omega) ?_
  have hn8 := hV.n
  have n8 : n ≤ 8 := (by omega)
  have key : ∀ a : Nat, a ≤ n → ∀ T : Ch, T 0 6 = n → T 0 7 = (livM (M r2) n : Nat) → (∀ a', a' < a → LKr T (M r2) n a') → G l E d m_Ties_look 29 [(0, (.ref 12, 30)), (1, (.ref r2, 11)), (2, (.int (iN a), 0))] [] (setR M 12 T) K := by
    refine dn n (fun T t6 t7 tr => ?_) (fun a ha ih T t6 t7 tr => ?_)
    · refine b_Ties_look_29 (by omega) ⟨fun _ => h T ⟨t6, t7, tr⟩, fun c => absurd ?_ c⟩
      rw [setR_same, t6]
      exact (iN_le (by omega) (by omega) (by omega) (by omega)).mpr (by omega)
    · have own : ∀ b : Nat, b < n → a ≠ b → (∀ T : Ch, T 0 6 = n → T 0 7 = (livM (M r2) n : Nat) → (∀ a', a' < a → LKr T (M r2) n a') → T 1 a = balC (M r2) a → T 2 a = (msk (lkN (M r2) a) (b + 1) : Nat) → T 3 a = (msk (lkA (M r2) a) (b + 1) : Nat) → G l E d m_Ties_look 64 [(0, (.ref 12, 30)), (1, (.ref r2, 11)), (2, (.int (iN a), 0)), (3, (.int (iN b + iN 1), 0))] [] (setR M 12 T) K) → ∀ T : Ch, T 0 6 = n → T 0 7 = (livM (M r2) n : Nat) → (∀ a', a' < a → LKr T (M r2) n a') → T 1 a = balC (M r2) a → T 2 a = (msk (lkN (M r2) a) (b + 1) : Nat) → T 3 a = (msk (lkA (M r2) a) b : Nat) → CT l E (d - 1) m_Choir_owedBetween [(.ref r2, 11), (.int (iN a), 0), (.int (iN b), 0)] (setR M 12 T) (fun v4 M4 => ((toI v4 ≤ 0 → G l E d m_Ties_look 64 [(0, (.ref 12, 30)), (1, (.ref r2, 11)), (2, (.int (iN a), 0)), (3, (.int (iN b + iN 1), 0))] [] M4 K) ∧ (¬ toI v4 ≤ 0 → (vp_in (iN a) 8 ∧ vp_in (iN a) 8 ∧ G l E d m_Ties_look 64 [(0, (.ref 12, 30)), (1, (.ref r2, 11)), (2, (.int (iN a), 0)), (3, (.int (iN b + iN 1), 0))] [] (upd3 M4 12 3 (iN a).toNatClampNeg (((iN (M4 12 3 (iN a).toNatClampNeg)) ||| ((iN 1) <<< (iN b &&& 31)))).toInt) K)))) := by
        intro b hb hab nx T t6 t7 tr t1 t2 t3
        have ro := owedC_rng hV a (b := b) (by omega)
        refine c_owedBetween (by omega) (by rw [setR_ne _ _ hr]; exact hV) (x := a) (b := b) (by omega) (by omega) (by omega) ?_
        rw [setR_ne _ _ hr, toI_int, iN_le0 (by omega) (by omega)]
        have em : msk (lkA (M r2) a) (b + 1) = if lkA (M r2) a b then msk (lkA (M r2) a) b ||| 2 ^ b else msk (lkA (M r2) a) b := rfl
        refine ⟨fun c => nx T t6 t7 tr t1 t2 ?_, fun c => ⟨iN_in (by omega) (by omega) (by omega), iN_in (by omega) (by omega) (by omega), ?_⟩⟩
        · rw [em, if_neg (by unfold lkA; simp [hab]; omega)]; exact t3
        · have lt := msk_lt (lkA (M r2) a) b (by omega)
          rw [iN_clN (by omega), upd3_setR, setR_same, setR_setR, t3, or_bit (by omega) (by omega) (by omega), setB_nat, iNn_toI (by have := or_lt lt (pow_lt (s := b) (by omega)); omega)]
          refine nx _ (by simp [upd2, t6]) (by simp [upd2, t7]) (fun a' ha' => LKr_upd 3 _ (by omega) (tr a' ha')) (by simp [upd2, t1]) (by simp [upd2, t2]) ?_
          rw [upd2_same, em, if_pos (by unfold lkA; simp [hab]; omega)]
      have inner : ∀ b : Nat, b ≤ n → ∀ T : Ch, T 0 6 = n → T 0 7 = (livM (M r2) n : Nat) → (∀ a', a' < a → LKr T (M r2) n a') → T 1 a = balC (M r2) a → T 2 a = (msk (lkN (M r2) a) b : Nat) → T 3 a = (msk (lkA (M r2) a) b : Nat) → G l E d m_Ties_look 64 [(0, (.ref 12, 30)), (1, (.ref r2, 11)), (2, (.int (iN a), 0)), (3, (.int (iN b), 0))] [] (setR M 12 T) K := by
        refine dn n (fun T t6 t7 tr t1 t2 t3 => ?_) (fun b hb ih2 T t6 t7 tr t1 t2 t3 => ?_)
        · refine b_Ties_look_64 (by omega) ⟨fun _ => ?_, fun c => absurd ?_ c⟩
          · rw [iN_add]
            refine ih T t6 t7 (fun a' ha' => ?_)
            by_cases e : a' = a
            · subst e; exact ⟨t1, t2, t3⟩
            · exact tr a' (by omega)
          · rw [setR_same, t6]
            exact (iN_le (by omega) (by omega) (by omega) (by omega)).mpr (by omega)
        · refine b_Ties_look_64 (by omega) ⟨fun c => absurd c ?_, fun _ => ⟨fun e => ⟨fun _ => ?_, fun ne => absurd e ne⟩, fun ne => ?_⟩⟩
          · rw [setR_same, t6, iN_le (by omega) (by omega) (by omega) (by omega)]; omega
          · rw [iN_eq (by omega) (by omega) (by omega) (by omega)] at e
            have e : a = b := (by omega)
            rw [iN_add]
            refine ih2 T t6 t7 tr t1 ?_ ?_
            · rw [t2, show msk (lkN (M r2) a) (b + 1) = if lkN (M r2) a b then msk (lkN (M r2) a) b ||| 2 ^ b else msk (lkN (M r2) a) b from rfl, if_neg (by unfold lkN; simp [e])]
            · rw [t3, show msk (lkA (M r2) a) (b + 1) = if lkA (M r2) a b then msk (lkA (M r2) a) b ||| 2 ^ b else msk (lkA (M r2) a) b from rfl, if_neg (by unfold lkA; simp [e])]
          · have ne' := ne
            rw [iN_eq (by omega) (by omega) (by omega) (by omega)] at ne'
            have hab : a ≠ b := (by omega)
            have rd := debtC_rng hV a (b := b) (by omega)
            have em : msk (lkN (M r2) a) (b + 1) = if lkN (M r2) a b then msk (lkN (M r2) a) b ||| 2 ^ b else msk (lkN (M r2) a) b := rfl
            have ow := own b hb hab (fun T u6 u7 ur u1 u2 u3 => by rw [iN_add]; exact ih2 T u6 u7 ur u1 u2 u3)
            refine c_debtAtNote (by omega) (by rw [setR_ne _ _ hr]; exact hV) (x := a) (b := b) (by omega) (by omega) (by omega) ?_
            rw [setR_ne _ _ hr, toI_int, iN_le0 (by omega) (by omega)]
            refine ⟨fun c => ⟨fun e => absurd e ne, fun _ => ?_⟩, fun c => ⟨iN_in (by omega) (by omega) (by omega), iN_in (by omega) (by omega) (by omega), fun e => absurd e ne, fun _ => ?_⟩⟩
            · refine ow T t6 t7 tr t1 ?_ t3
              rw [em, if_neg (by unfold lkN; simp [hab]; omega)]; exact t2
            · have lt := msk_lt (lkN (M r2) a) b (by omega)
              rw [iN_clN (by omega), upd3_setR, setR_same, setR_setR, t2, or_bit (by omega) (by omega) (by omega), setB_nat, iNn_toI (by have := or_lt lt (pow_lt (s := b) (by omega)); omega)]
              have := ow (upd2 T 2 a ((msk (lkN (M r2) a) b ||| 2 ^ b : Nat) : Int)) (by simp [upd2, t6]) (by simp [upd2, t7]) (fun a' ha' => LKr_upd 2 _ (by omega) (tr a' ha')) (by simp [upd2, t1]) (by rw [upd2_same, em, if_pos (by unfold lkN; simp [hab]; omega)]) (by simp [upd2, t3])
              rw [iN_clN (by omega)] at this
              exact this
      have rb := balC_rng hV (s := a) (by omega)
      refine b_Ties_look_29 (by omega) ⟨fun c => absurd c ?_, fun _ => c_balanceOf (by omega) (by rw [setR_ne _ _ hr]; exact hV) (s := a) (by omega) ?_⟩
      · rw [setR_same, t6, iN_le (by omega) (by omega) (by omega) (by omega)]; omega
      · rw [setR_ne _ _ hr, toI_int, iN_clN (by omega)]
        refine ⟨iN_in (by omega) (by omega) (by omega), iN_in (by omega) (by omega) (by omega), iN_in (by omega) (by omega) (by omega), ?_⟩
        simp only [upd3_setR, setR_same, setR_setR, iN_small (show -2147483648 ≤ balC (M r2) a by omega) (show balC (M r2) a < 2147483648 by omega), iN_0I]
        exact inner 0 (by omega) _ (by simp [upd2, t6]) (by simp [upd2, t7]) (fun a' ha' => LKr_upd 3 _ (by omega) (LKr_upd 2 _ (by omega) (LKr_upd 1 _ (by omega) (tr a' ha')))) (by simp [upd2]) (by simp [upd2, msk]) (by simp [upd2, msk])
  have md := hV.ms 12 (by omega) (by omega)
  obtain ⟨x, hx⟩ : ∃ x : Nat, M r2 0 12 = x := ⟨(M r2 0 12).toNat, (by omega)⟩
  simp only [upd3_setR, setR_same, setR_setR, setR_ne _ _ hr, hn, hx, upd2_same, iN_small (show -2147483648 ≤ (n : Int) by omega) (show (n : Int) < 2147483648 by omega)]
  rw [ones_n n (by omega), and_not _ (ones_lt n8) x (by omega), iNn_toI (by have := nAnd_lt x (ones_lt n8); omega)]
  exact key 0 (by omega) _ (by simp [upd2]) (by simp [upd2, livM, hx]) (fun a' ha' => absurd ha' (by omega))
