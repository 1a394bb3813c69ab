theorem sumN_congr {f g : Nat → Int} : ∀ {n : Nat}, (∀ k, k < n → f k = g k) → sumN f n = sumN g n
  | 0, _ => rfl
  | n + 1, h => by
    simp only [sumN]
    rw [sumN_congr (n := n) (fun k hk => h k (by omega)), h n (by omega)]
theorem sumN_zero {f : Nat → Int} : ∀ {n : Nat}, (∀ k, k < n → f k = 0) → sumN f n = 0
  | 0, _ => rfl
  | n + 1, h => by
    simp only [sumN]
    rw [sumN_zero (n := n) (fun k hk => h k (by omega)), h n (by omega)]
    rfl
theorem sumN_add (f g : Nat → Int) : ∀ n : Nat, sumN (fun k => f k + g k) n = sumN f n + sumN g n
  | 0 => rfl
  | n + 1 => by
    simp only [sumN]
    rw [sumN_add f g n]
    omega
theorem sumN_swap (f : Nat → Nat → Int) (m : Nat) : ∀ n : Nat, sumN (fun a => sumN (f a) m) n = sumN (fun b => sumN (fun a => f a b) n) m
  | 0 => by
    simp only [sumN]
    exact (sumN_zero (fun _ _ => rfl)).symm
  | n + 1 => by
    simp only [sumN]
    rw [sumN_swap f m n, ← sumN_add]
theorem sumN_tail {f : Nat → Int} {m : Nat} : ∀ {n : Nat}, m ≤ n → (∀ k, m ≤ k → k < n → f k = 0) → sumN f n = sumN f m
  | 0, h, _ => by rw [show m = 0 by omega]
  | n + 1, h, hz => by
    by_cases e : m = n + 1
    · rw [e]
    · simp only [sumN]
      rw [sumN_tail (n := n) (by omega) (fun k k1 k2 => hz k k1 (by omega)), hz n (by omega) (by omega)]
      omega
theorem sumN_six (f : Nat → Int) : ∀ n : Nat, sumN f (6 * n) = sumN (fun b => sumN (fun k => f (6 * b + k)) 6) n
  | 0 => rfl
  | n + 1 => by
    rw [show 6 * (n + 1) = 6 * n + 6 by omega]
    simp only [sumN]
    rw [sumN_six f n]
    simp only [sumN, Nat.add_zero]
    omega
theorem sumN_ind {x v : Int} : ∀ {n : Nat}, 0 ≤ x → x < n → sumN (fun b => ifz (x == (b : Int)) v) n = v
  | 0, h0, h1 => by omega
  | n + 1, h0, h1 => by
    simp only [sumN]
    by_cases e : x = n
    · rw [sumN_zero (fun k hk => by simp [ifz]; omega), e]
      simp [ifz]
    · rw [sumN_ind (n := n) h0 (by omega)]
      simp [ifz, e]
theorem sumN_ind0 {x v : Int} {n : Nat} (h : x < 0 ∨ (n : Int) ≤ x) : sumN (fun b => ifz (x == (b : Int)) v) n = 0 :=
  sumN_zero (fun k hk => by simp [ifz]; omega)
theorem sumN_one {p : Nat → Bool} {v : Nat → Int} {j : Nat} : ∀ {n : Nat}, j < n → p j = true → (∀ k, k < n → p k = true → k = j) → sumN (fun k => ifz (p k) (v k)) n = v j
  | 0, h, _, _ => by omega
  | n + 1, h, hj, hu => by
    simp only [sumN]
    by_cases e : j = n
    · subst e
      rw [sumN_zero (fun k hk => by
        cases hp : p k with
        | false => rfl
        | true => have := hu k (by omega) hp; omega), hj]
      simp [ifz]
    · rw [sumN_one (n := n) (by omega) hj (fun k hk => hu k (by omega))]
      have : p n = false := by
        cases hp : p n with
        | false => rfl
        | true => have := hu n (by omega) hp; omega
      rw [this]
      simp [ifz]
/-- the debt at a NOTE, as a sum -/
theorem debt_sum {C : Ch} (hW : WC C) {a : Int} {b : Nat} (a0 : 0 ≤ a) (hb : b < 8) : debtC C a b = sumN (fun k => ifz (C 6 (6 * b + k) == a) (C 7 (6 * b + k))) 6 := by
  have hV := hW.1
  rcases slotOf_rng hV a hb with e | ⟨i, e, i1, i2, i3, i4⟩
  · rw [debtC_none e, sumN_zero]
    intro k hk
    have := noLine hW a0 hb e (6 * b + k) (by omega) (by omega)
    simp [ifz, this]
  · have le := hV.le b hb
    rw [debtC_slot e, sumN_one (p := fun k => C 6 (6 * b + k) == a) (v := fun k => C 7 (6 * b + k)) (j := i - 6 * b) (by omega) (by simp only [beq_iff_eq]; rw [show 6 * b + (i - 6 * b) = i by omega]; exact i4) (fun k hk hp => ?_)]
    · show C 7 i = C 7 (6 * b + (i - 6 * b))
      rw [show 6 * b + (i - 6 * b) = i by omega]
    · simp only [beq_iff_eq] at hp
      by_cases c : 6 * b + k = i
      · omega
      · have := hW.2.2.2.1 (6 * b + k) i (by omega) i3 c (by omega) (by rw [hp, i4])
        omega
theorem wait_sum {C : Ch} (hW : WC C) {a b : Int} : (if placeOfC C a b = -1 then 0 else C 11 (placeOfC C a b).toNat) = sumN (fun k => ifz (C 9 k == a && C 10 k == b) (C 11 k)) (C 8 3).toNat := by
  have hV := hW.1
  have hs := hV.w
  rcases placeOf_rng hV a b with e | ⟨i, e, i1, i2, i3, i4⟩
  · rw [if_pos e, sumN_zero]
    intro k hk
    have := noWait e k (by omega)
    have : (C 9 k == a && C 10 k == b) = false := by
      simp only [Bool.and_eq_false_iff, beq_eq_false_iff_ne]
      by_cases c : C 9 k = a
      · exact Or.inr (fun q => this ⟨c, q⟩)
      · exact Or.inl c
    rw [this]
    rfl
  · rw [e, if_neg (by omega), show ((i : Int)).toNat = i from rfl]
    rw [sumN_one (p := fun k => C 9 k == a && C 10 k == b) (v := C 11) (j := i) i1 (by simp [i3, i4]) (fun k hk hp => ?_)]
    simp only [Bool.and_eq_true, beq_iff_eq] at hp
    exact hW.2.2.2.2.2.1 k i (by omega) (by omega) (by rw [hp.1, i3]) (by rw [hp.2, i4])
theorem sum_owes {C : Ch} (hW : WC C) {a : Nat} {n : Nat} (hn : C 0 8 = n) : sumN (fun b => owedC C a b) n = owesC C a := by
  have hV := hW.1
  have n8 := hV.n
  have hs := hV.w
  have e1 : sumN (fun b => owedC C a b) n = sumN (fun b => sumN (fun k => ifz (C 6 (6 * b + k) == (a : Int)) (C 7 (6 * b + k))) 6) n + sumN (fun b => sumN (fun k => ifz (C 9 k == (a : Int) && C 10 k == (b : Int)) (C 11 k)) (C 8 3).toNat) n := by
    rw [← sumN_add]
    refine sumN_congr (fun b hb => ?_)
    unfold owedC
    rw [debt_sum hW (by omega) (by omega), wait_sum hW]
  unfold owesC
  rw [e1, ← sumN_six (fun i => ifz (C 6 i == (a : Int)) (C 7 i)) n, sumN_swap]
  congr 1
  · refine (sumN_tail (n := 48) (m := 6 * n) (by omega) (fun i i1 i2 => ?_)).symm
    by_cases c : C 6 i = -1
    · simp only [ifz]
      rw [c, if_neg]
      simp
    · have := (hW.2.2.1 i i2 c).1
      omega
  · refine sumN_congr (fun k hk => ?_)
    have w4 := hW.2.2.2.2.1 k (by omega)
    have wb := hV.wb k (by omega)
    cases hp : (C 9 k == (a : Int)) with
    | false => exact sumN_zero (fun b _ => by simp [ifz])
    | true =>
      have := sumN_ind (x := C 10 k) (v := C 11 k) (n := n) wb.1 (by omega)
      simpa [ifz] using this
theorem sum_owed {C : Ch} (hW : WC C) {b : Nat} {n : Nat} (hn : C 0 8 = n) (hb : b < n) : sumN (fun a => owedC C a b) n = isOwC C b := by
  have hV := hW.1
  have n8 := hV.n
  have hs := hV.w
  have le := hV.le b (by omega)
  have e1 : sumN (fun a => owedC C a b) n = sumN (fun a => sumN (fun k => ifz (C 6 (6 * b + k) == ((a : Nat) : Int)) (C 7 (6 * b + k))) 6) n + sumN (fun a => sumN (fun k => ifz (C 9 k == ((a : Nat) : Int) && C 10 k == (b : Int)) (C 11 k)) (C 8 3).toNat) n := by
    rw [← sumN_add]
    refine sumN_congr (fun a ha => ?_)
    unfold owedC
    rw [debt_sum hW (by omega) (by omega), wait_sum hW]
  unfold isOwC
  rw [e1, sumN_swap (fun a k => ifz (C 6 (6 * b + k) == ((a : Nat) : Int)) (C 7 (6 * b + k))) 6 n, sumN_swap (fun a k => ifz (C 9 k == ((a : Nat) : Int) && C 10 k == (b : Int)) (C 11 k)) (C 8 3).toNat n]
  congr 1
  · rw [← sumN_tail (n := 6) (m := (C 4 b).toNat) (by omega) (fun k k1 k2 => ?_)]
    · refine sumN_congr (fun k hk => ?_)
      have ho := hV.ho (6 * b + k) (by omega)
      by_cases c : C 6 (6 * b + k) = -1
      · rw [sumN_ind0 (by omega), (hW.2.1 (6 * b + k) (by omega)).mp c]
      · have w2 := hW.2.2.1 (6 * b + k) (by omega) c
        exact sumN_ind (by omega) (by omega)
    · by_cases c : C 6 (6 * b + k) = -1
      · exact (hW.2.1 (6 * b + k) (by omega)).mp c
      · have w2 := (hW.2.2.1 (6 * b + k) (by omega) c).2.1
        rw [show (6 * b + k) / 6 = b by omega, show (6 * b + k) % 6 = k by omega] at w2
        omega
  · refine sumN_congr (fun k hk => ?_)
    have w4 := hW.2.2.2.2.1 k (by omega)
    have wa := hV.wa k (by omega)
    cases hp : (C 10 k == (b : Int)) with
    | false => exact sumN_zero (fun a _ => by simp [ifz])
    | true =>
      have := sumN_ind (x := C 9 k) (v := C 11 k) (n := n) wa.1 (by omega)
      simpa [ifz] using this
theorem sum_all {C : Ch} (hW : WC C) {n : Nat} (hn : C 0 8 = n) : sumN (fun a => owesC C (a : Nat)) n = allOwC C 0 := by
  have hV := hW.1
  have n8 := hV.n
  have hs := hV.w
  have e0 : sumN (fun a => owesC C ((a : Nat) : Int)) n = sumN (fun a => sumN (fun b => owedC C ((a : Nat) : Int) b) n) n := sumN_congr (fun a ha => (sum_owes hW hn).symm)
  rw [e0, sumN_swap]
  have e1 : sumN (fun b => sumN (fun a => owedC C ((a : Nat) : Int) b) n) n = sumN (fun b => isOwC C b) n := sumN_congr (fun b hb => sum_owed hW hn hb)
  rw [e1]
  unfold isOwC allOwC linesIn
  rw [sumN_add, hn, show ((n : Int)).toNat = n from rfl]
  congr 1
  · refine sumN_congr (fun s hs => ?_)
    unfold lineIn
    refine sumN_congr (fun k hk => ?_)
    rw [ite_self]
    rfl
  · rw [sumN_swap]
    refine sumN_congr (fun k hk => ?_)
    have w4 := hW.2.2.2.2.1 k (by omega)
    have wb := hV.wb k (by omega)
    exact sumN_ind wb.1 (by omega)
