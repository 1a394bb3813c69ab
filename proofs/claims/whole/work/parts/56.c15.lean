def clrN (x s : Nat) : Nat := x &&& (255 - 2 ^ s)
theorem clrB_nat (x s : Nat) : clrB (x : Int) s = ((clrN x s : Nat) : Int) := rfl
theorem clrN_lt : ∀ x : Nat, x < 256 → ∀ s : Nat, s < 8 → x.testBit s = true → clrN x s < x := by decide +kernel
theorem clrN_bit : ∀ x : Nat, x < 256 → ∀ s : Nat, s < 8 → ∀ j : Nat, j < 8 → (clrN x s).testBit j = (x.testBit j && decide (j ≠ s)) := by decide +kernel
theorem clrN_256 {x s : Nat} (h : x < 256) : clrN x s < 256 := Nat.lt_of_le_of_lt Nat.and_le_left h
theorem clrN_sub {x a : Nat} (s : Nat) (h : nAnd x a = 0) : nAnd (clrN x s) a = 0 := by
  unfold nAnd clrN at *
  rw [Nat.and_assoc, Nat.and_comm (255 - 2 ^ s), ← Nat.and_assoc, h, Nat.zero_and]
def unM (B : Nat → Int) (n : Nat) : Nat := msk (fun s => B s != 0) n
theorem c_uneven {l : Launch} {E : EnvT} {d : Nat} {K : AV → Mem → Prop} {M : Mem} {n : Nat} (hd : 1 ≤ d) (hn : M 12 0 6 = n) (n8 : n ≤ 8) (hb : ∀ s, s < n → -60000 ≤ M 12 1 s ∧ M 12 1 s ≤ 60000) (h : K (.int (iN (unM (M 12 1) n : Nat)), 0) M) : CT l E d m_Ties_uneven [(.ref 12, 30)] M K := by
  refine CT.of pn_Ties (Nat.le_of_ble_eq_true rfl) ?_
  refine b_Ties_uneven_0 hd ?_
  have key : ∀ k : Nat, k ≤ n → G l E d m_Ties_uneven 4 [(0, (.ref 12, 30)), (1, (.int (iN ((msk (fun s => M 12 1 s != 0) k : Nat) : Int)), 0)), (2, (.int (iN k), 0))] [] M K := by
    refine dn n ?_ (fun k hk ih => ?_)
    · refine b_Ties_uneven_4 hd ⟨fun _ => h, fun c => absurd ?_ c⟩
      rw [hn]; exact (iN_le (by omega) (by omega) (by omega) (by omega)).mpr (by omega)
    · have b1 := hb k hk
      have em : msk (fun s => M 12 1 s != 0) (k + 1) = if M 12 1 k != 0 then msk (fun s => M 12 1 s != 0) k ||| 2 ^ k else msk (fun s => M 12 1 s != 0) k := rfl
      refine b_Ties_uneven_4 hd ⟨fun c => absurd c ?_, fun _ => ⟨iN_in (by omega) (by omega) (by omega), fun c => ?_, fun c => ?_⟩⟩
      · rw [hn, iN_le (by omega) (by omega) (by omega) (by omega)]; omega
      · rw [iN_clN (by omega), iN_eq0 (by omega) (by omega)] at c
        rw [em, if_neg (by simp [c])] at ih
        rw [iN_add]
        exact ih
      · rw [iN_clN (by omega), iN_eq0 (by omega) (by omega)] at c
        rw [em, if_pos (by simp [c])] at ih
        have lt := msk_lt (fun s => M 12 1 s != 0) k (by omega)
        rw [iN_add, or_bit (by omega) (by omega) (by omega), setB_nat]
        exact ih
  exact key 0 (by omega)
theorem unM_lt (B : Nat → Int) {n : Nat} (h : n ≤ 8) : unM B n < 256 := msk_lt _ n h
theorem c_unevenCount {l : Launch} {E : EnvT} {d : Nat} {K : AV → Mem → Prop} {M : Mem} {n : Nat} (hd : 2 ≤ d) (hn : M 12 0 6 = n) (n8 : n ≤ 8) (hb : ∀ s, s < n → -60000 ≤ M 12 1 s ∧ M 12 1 s ≤ 60000) (h : K (.int (iN (popc (unM (M 12 1) n))), 0) M) : CT l E d m_Ties_unevenCount [(.ref 12, 30)] M K := by
  refine CT.of pn_Ties (Nat.le_of_ble_eq_true rfl) ?_
  have lt := unM_lt (M 12 1) n8
  refine b_Ties_unevenCount_0 (by omega) (c_uneven (by omega) hn n8 hb (c_bitCount (by omega) (by omega) (by omega) ?_))
  exact h
def sumM (B : Nat → Int) (y n : Nat) : Int := sumN (fun s => if y.testBit s then B s else 0) n
def mxN (g : Nat → Int) : Nat → Int
  | 0 => 0
  | k + 1 => max (mxN g k) (g k)
def bestP (B : Nat → Int) (n : Nat) : Nat → Nat → Int
  | 0, _ => 0
  | f + 1, y => if y = 0 then 0 else mxN (fun s => if y.testBit s then bestP B n f (clrN y s) else 0) n + if sumM B y n = 0 then 1 else 0
def BP (B : Nat → Int) (n y : Nat) : Int := bestP B n y y
theorem mxN_congr {g g' : Nat → Int} : ∀ n : Nat, (∀ s, s < n → g s = g' s) → mxN g n = mxN g' n
  | 0, _ => rfl
  | k + 1, h => by
    unfold mxN
    rw [mxN_congr k (fun s hs => h s (by omega)), h k (by omega)]
theorem mxN_rng {g : Nat → Int} {b : Int} (h0 : 0 ≤ b) : ∀ n : Nat, (∀ s, s < n → g s ≤ b) → 0 ≤ mxN g n ∧ mxN g n ≤ b
  | 0, _ => ⟨show (0 : Int) ≤ 0 by omega, h0⟩
  | k + 1, h => by
    unfold mxN
    have h1 := mxN_rng h0 k (fun s hs => h s (by omega))
    have h2 := h k (by omega)
    omega
theorem bestP_rng (B : Nat → Int) (n : Nat) : ∀ (f y : Nat), 0 ≤ bestP B n f y ∧ bestP B n f y ≤ f
  | 0, _ => ⟨show (0 : Int) ≤ 0 by omega, show (0 : Int) ≤ 0 by omega⟩
  | f + 1, y => by
    unfold bestP
    split
    · omega
    · have h1 := mxN_rng (g := fun s => if y.testBit s then bestP B n f (clrN y s) else 0) (b := f) (by omega) n (fun s _ => by
        have := bestP_rng B n f (clrN y s)
        show (if y.testBit s then bestP B n f (clrN y s) else 0) ≤ (f : Int)
        split <;> omega)
      split <;> omega
theorem bestP_fuel (B : Nat → Int) {n : Nat} (n8 : n ≤ 8) : ∀ (f f' y : Nat), y < 256 → y ≤ f → y ≤ f' → bestP B n f y = bestP B n f' y
  | 0, 0, _, _, _, _ => rfl
  | 0, f' + 1, y, _, h1, _ => by
    have : y = 0 := by omega
    subst this
    rfl
  | f + 1, 0, y, _, _, h2 => by
    have : y = 0 := by omega
    subst this
    rfl
  | f + 1, f' + 1, y, h0, h1, h2 => by
    show (if y = 0 then 0 else mxN (fun s => if y.testBit s then bestP B n f (clrN y s) else 0) n + if sumM B y n = 0 then 1 else 0) = (if y = 0 then 0 else mxN (fun s => if y.testBit s then bestP B n f' (clrN y s) else 0) n + if sumM B y n = 0 then 1 else 0)
    rw [mxN_congr (g := fun s => if y.testBit s then bestP B n f (clrN y s) else 0) (g' := fun s => if y.testBit s then bestP B n f' (clrN y s) else 0) n (fun s hs => by
      show (if y.testBit s then bestP B n f (clrN y s) else 0) = (if y.testBit s then bestP B n f' (clrN y s) else 0)
      split
      · rename_i hb
        have := clrN_lt y h0 s (by omega) hb
        exact bestP_fuel B n8 f f' (clrN y s) (by omega) (by omega) (by omega)
      · rfl)]
theorem BP_step (B : Nat → Int) {n y : Nat} (n8 : n ≤ 8) (h1 : 1 ≤ y) (h2 : y < 256) : BP B n y = mxN (fun s => if y.testBit s then BP B n (clrN y s) else 0) n + if sumM B y n = 0 then 1 else 0 := by
  obtain ⟨f, rfl⟩ : ∃ f, y = f + 1 := ⟨y - 1, by omega⟩
  show (if f + 1 = 0 then 0 else mxN (fun s => if (f + 1).testBit s then bestP B n f (clrN (f + 1) s) else 0) n + if sumM B (f + 1) n = 0 then 1 else 0) = _
  rw [if_neg (by omega)]
  rw [mxN_congr (g := fun s => if (f + 1).testBit s then bestP B n f (clrN (f + 1) s) else 0) (g' := fun s => if (f + 1).testBit s then BP B n (clrN (f + 1) s) else 0) n (fun s hs => by
    show (if (f + 1).testBit s then bestP B n f (clrN (f + 1) s) else 0) = (if (f + 1).testBit s then BP B n (clrN (f + 1) s) else 0)
    split
    · rename_i hb
      have := clrN_lt (f + 1) h2 s (by omega) hb
      exact bestP_fuel B n8 f (clrN (f + 1) s) (clrN (f + 1) s) (by omega) (by omega) (by omega)
    · rfl)]
theorem sumM_clr_aux (B : Nat → Int) {y s : Nat} (hy : y < 256) (hs : s < 8) (hb : y.testBit s = true) : ∀ n : Nat, n ≤ 8 → sumM B y n = sumM B (clrN y s) n + if s < n then B s else 0
  | 0, _ => rfl
  | k + 1, h => by
    have ih := sumM_clr_aux B hy hs hb k (by omega)
    unfold sumM at *
    show sumN _ k + (if y.testBit k then B k else 0) = sumN _ k + (if (clrN y s).testBit k then B k else 0) + _
    rw [ih, clrN_bit y hy s hs k (by omega)]
    by_cases e : k = s
    · subst e
      rw [hb]
      simp
    · by_cases e2 : s < k
      · rw [if_pos e2, if_pos (show s < k + 1 by omega)]
        cases y.testBit k <;> simp [e] <;> omega
      · rw [if_neg e2, if_neg (show ¬ s < k + 1 by omega)]
        cases y.testBit k <;> simp [e]
theorem sumM_clr (B : Nat → Int) {y s n : Nat} (hy : y < 256) (hs : s < n) (n8 : n ≤ 8) (hb : y.testBit s = true) : sumM B (clrN y s) n + B s = sumM B y n := by
  have := sumM_clr_aux B hy (by omega) hb n n8
  rw [if_pos hs] at this
  omega
theorem sumM_rng {B : Nat → Int} {n : Nat} (n8 : n ≤ 8) (hb : ∀ s, s < n → -60000 ≤ B s ∧ B s ≤ 60000) (y : Nat) : -480000 ≤ sumM B y n ∧ sumM B y n ≤ 480000 := by
  have := sumN_rng (f := fun s => if y.testBit s then B s else 0) (lo := -60000) (hi := 60000) n (fun k hk => by
    have := hb k hk
    show -60000 ≤ (if y.testBit k then B k else 0) ∧ (if y.testBit k then B k else 0) ≤ 60000
    split <;> omega)
  unfold sumM
  omega
def anyB (y : Nat) : Nat → Bool
  | 0 => false
  | k + 1 => anyB y k || y.testBit k
theorem sumM_none (B : Nat → Int) (y : Nat) : ∀ n : Nat, anyB y n = false → sumM B y n = 0
  | 0, _ => rfl
  | k + 1, h => by
    unfold anyB at h
    rw [Bool.or_eq_false_iff] at h
    have := sumM_none B y k h.1
    unfold sumM at *
    show sumN _ k + (if y.testBit k then B k else 0) = 0
    rw [this, h.2]
    rfl
theorem c_addUp {l : Launch} {E : EnvT} {d : Nat} {K : AV → Mem → Prop} {M : Mem} {T : Ch} {n x : Nat} (hd : 2 ≤ d) (hn : T 0 6 = n) (n8 : n ≤ 8) (x1 : 1 ≤ x) (x2 : x < 256) (hb : ∀ s, s < n → -60000 ≤ T 1 s ∧ T 1 s ≤ 60000) (hS : ∀ s, s < n → x.testBit s = true → T 5 (clrN x s) = sumM (T 1) (clrN x s) n ∧ T 6 (clrN x s) = BP (T 1) n (clrN x s)) (h : K (.null, 0) (setR M 12 (upd2 (upd2 T 5 x (sumM (T 1) x n)) 6 x (BP (T 1) n x)))) : CT l E d m_Ties_addUp [(.ref 12, 30), (.int (iN x), 0)] (setR M 12 T) K := by
  refine CT.of pn_Ties (Nat.le_of_ble_eq_true rfl) ?_
  refine b_Ties_addUp_0 (by omega) ?_
  have sr := sumM_rng n8 hb x
  have key : ∀ k : Nat, k ≤ n → G l E d m_Ties_addUp 7 [(0, (.ref 12, 30)), (1, (.int (iN x), 0)), (2, (.int (iN (mxN (fun s => if x.testBit s then BP (T 1) n (clrN x s) else 0) k)), 0)), (3, (.int (iN (if anyB x k then sumM (T 1) x n else 0)), 0)), (4, (.int (iN k), 0))] [] (setR M 12 T) K := by
    have mr : ∀ k : Nat, 0 ≤ mxN (fun s => if x.testBit s then BP (T 1) n (clrN x s) else 0) k ∧ mxN (fun s => if x.testBit s then BP (T 1) n (clrN x s) else 0) k ≤ 256 := by
      intro k
      refine mxN_rng (by omega) k (fun s _ => ?_)
      have c1 := clrN_256 (s := s) x2
      have := bestP_rng (T 1) n (clrN x s) (clrN x s)
      show (if x.testBit s then bestP (T 1) n (clrN x s) (clrN x s) else 0) ≤ 256
      split <;> omega
    refine dn n ?_ (fun k hk ih => ?_)
    · refine b_Ties_addUp_7 (by omega) ⟨fun _ => ⟨iN_in (by omega) (by omega) (by omega), ?_⟩, fun c => absurd ?_ c⟩
      · have e : (if anyB x n then sumM (T 1) x n else 0) = sumM (T 1) x n := by
          cases ha : anyB x n with
          | true => rfl
          | false => rw [sumM_none (T 1) x n ha]; rfl
        have m1 := mr n
        rw [BP_step (T 1) n8 x1 x2] at h
        rw [e, iN_eq0 (by omega) (by omega), iN_clN (by omega), iN_add, iN_small (show -2147483648 ≤ sumM (T 1) x n by omega) (show sumM (T 1) x n < 2147483648 by omega)]
        refine ⟨fun c => ⟨iN_in (by omega) (by omega) (by omega), ?_⟩, fun c => ⟨iN_in (by omega) (by omega) (by omega), ?_⟩⟩
        · rw [if_neg c, Int.add_zero] at h
          simp only [upd3_setR, setR_same, setR_setR, iN_small (show -2147483648 ≤ mxN (fun s => if x.testBit s then BP (T 1) n (clrN x s) else 0) n by omega) (show mxN (fun s => if x.testBit s then BP (T 1) n (clrN x s) else 0) n < 2147483648 by omega)]
          exact h
        · rw [if_pos c] at h
          simp only [upd3_setR, setR_same, setR_setR, iN_small (show -2147483648 ≤ mxN (fun s => if x.testBit s then BP (T 1) n (clrN x s) else 0) n + 1 by omega) (show mxN (fun s => if x.testBit s then BP (T 1) n (clrN x s) else 0) n + 1 < 2147483648 by omega)]
          exact h
      · rw [setR_same, hn]; exact (iN_le (by omega) (by omega) (by omega) (by omega)).mpr (by omega)
    · have m1 := mr k
      have b1 := hb k hk
      refine b_Ties_addUp_7 (by omega) ⟨fun c => absurd c ?_, fun _ => c_isIn (by omega) (by omega) (by omega) (s := k) (by omega) ?_⟩
      · rw [setR_same, hn, iN_le (by omega) (by omega) (by omega) (by omega)]; omega
      · rw [toI_int, b2i_z, inS_nat]
        have ea : anyB x (k + 1) = (anyB x k || x.testBit k) := rfl
        have em : mxN (fun s => if x.testBit s then BP (T 1) n (clrN x s) else 0) (k + 1) = max (mxN (fun s => if x.testBit s then BP (T 1) n (clrN x s) else 0) k) (if x.testBit k then BP (T 1) n (clrN x k) else 0) := rfl
        refine ⟨fun c => ?_, fun c => ?_⟩
        · rw [ea, em, c, Bool.or_false, if_neg (by simp), show max (mxN (fun s => if x.testBit s then BP (T 1) n (clrN x s) else 0) k) 0 = mxN (fun s => if x.testBit s then BP (T 1) n (clrN x s) else 0) k by omega] at ih
          rw [iN_add]
          exact ih
        · rw [Bool.not_eq_false] at c
          have hs := hS k hk c
          have c1 := clrN_256 (s := k) x2
          have br := bestP_rng (T 1) n (clrN x k) (clrN x k)
          have br2 : 0 ≤ BP (T 1) n (clrN x k) ∧ BP (T 1) n (clrN x k) ≤ clrN x k := br
          rw [ea, em, c, Bool.or_true, if_pos rfl, if_pos rfl] at ih
          rw [clr_bit (by omega) (by omega) (by omega), clrB_nat, iN_clN (by omega), iN_clN (by omega), setR_same, hs.1, hs.2]
          refine ⟨iN_in (by omega) (by omega) (by omega), iN_in (by omega) (by omega) (by omega), iN_in (by omega) (by omega) (by omega), c_max (by omega) (by omega) (by omega) (by omega) (by omega) ?_⟩
          rw [toI_int, iN_add, iN_add, sumM_clr (T 1) x2 hk n8 c]
          exact ih
  exact key 0 (by omega)
theorem c_mostParts {l : Launch} {E : EnvT} {d : Nat} {K : AV → Mem → Prop} {M : Mem} {T : Ch} {n : Nat} (hd : 3 ≤ d) (hn : T 0 6 = n) (n8 : n ≤ 8) (hb : ∀ s, s < n → -60000 ≤ T 1 s ∧ T 1 s ≤ 60000) (h : ∀ T' : Ch, (∀ c, c ≤ 3 → T' c = T c) → K (.int (iN (BP (T 1) n (unM (T 1) n))), 0) (setR M 12 T')) : CT l E d m_Ties_mostParts [(.ref 12, 30)] (setR M 12 T) K := by
  refine CT.of pn_Ties (Nat.le_of_ble_eq_true rfl) ?_
  have lt := unM_lt (T 1) n8
  refine b_Ties_mostParts_0 (by omega) (c_uneven (by omega) (by rw [setR_same]; exact hn) n8 (by rw [setR_same]; exact hb) ?_)
  rw [setR_same, toI_int]
  generalize hall : unM (T 1) n = all at *
  have key : ∀ k : Nat, k ≤ all + 1 → 1 ≤ k → ∀ T' : Ch, (∀ c, c ≤ 3 → T' c = T c) → (∀ y, y < k → nAnd y all = 0 → T' 5 y = sumM (T 1) y n ∧ T' 6 y = BP (T 1) n y) → G l E d m_Ties_mostParts 21 [(0, (.ref 12, 30)), (1, (.int (iN all), 0)), (2, (.int (iN k), 0))] [] (setR M 12 T') K := by
    refine dn (all + 1) (fun k1 T' ht hy => ?_) (fun k hk ih k1 T' ht hy => ?_)
    · refine b_Ties_mostParts_21 (by omega) ⟨fun _ => ⟨iN_in (by omega) (by omega) (by omega), ?_⟩, fun c => absurd ((iN_lt (by omega) (by omega) (by omega) (by omega)).mpr (by omega)) c⟩
      have e : nAnd all all = 0 := by
        have : ∀ a : Nat, a < 256 → nAnd a a = 0 := by decide +kernel
        exact this all lt
      rw [setR_same, iN_clN (by omega), (hy all (by omega) e).2]
      exact h T' ht
    · refine b_Ties_mostParts_21 (by omega) ⟨fun c => absurd ((iN_lt (by omega) (by omega) (by omega) (by omega)).mp c) (by omega), fun _ => ?_⟩
      have e : (iN (k : Int) &&& (iN (all : Int) ^^^ iN (-1))) = iN ((nAnd k all : Nat) : Int) := and_not k (by omega) all lt
      have nl := nAnd_lt all (show k < 256 by omega)
      rw [e, iN_eq0 (by omega) (by omega), iN_add]
      refine ⟨fun c => ih (by omega) T' ht (fun y h1 h2 => ?_), fun c => ?_⟩
      · by_cases e : y = k
        · subst e; omega
        · exact hy y (by omega) h2
      · have c : nAnd k all = 0 := (by omega)
        refine c_addUp (by omega) (by rw [ht 0 (by omega)]; exact hn) n8 k1 (by omega) (by rw [ht 1 (by omega)]; exact hb) (fun s hs hb => ?_) ?_
        · rw [ht 1 (by omega)]
          exact hy (clrN k s) (clrN_lt k (by omega) s (by omega) hb) (clrN_sub s c)
        · rw [ht 1 (by omega)]
          refine ih (by omega) _ (fun c hc => ?_) (fun y h1 h2 => ?_)
          · rw [upd2_c _ _ (by omega), upd2_c _ _ (by omega), ht c hc]
          · by_cases e : y = k
            · subst e
              exact ⟨by rw [upd2_c _ _ (by decide), upd2_same], by rw [upd2_same]⟩
            · have := hy y (by omega) h2
              exact ⟨by rw [upd2_c _ _ (by decide), upd2_k _ _ e]; exact this.1, by rw [upd2_k _ _ e, upd2_c _ _ (by decide)]; exact this.2⟩
  rw [cp_0, iN_0I]
  refine ⟨iN_in (by omega) (by omega) (by omega), iN_in (by omega) (by omega) (by omega), ?_⟩
  simp only [upd3_setR, setR_same, setR_setR]
  refine key 1 (by omega) (by omega) _ (fun c hc => ?_) (fun y h1 h2 => ?_)
  · rw [upd2_c _ _ (by omega), upd2_c _ _ (by omega)]
  · have : y = 0 := (by omega)
    subst this
    have e0 : ∀ m : Nat, sumM (T 1) 0 m = 0 := by
      intro m
      refine sumM_none (T 1) 0 m ?_
      induction m with
      | zero => rfl
      | succ m ih => unfold anyB; rw [ih, Nat.zero_testBit]; rfl
    exact ⟨by rw [upd2_c _ _ (by decide), upd2_same, e0], by rw [upd2_same]; rfl⟩
