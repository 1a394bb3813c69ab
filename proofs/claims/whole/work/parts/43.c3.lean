theorem c_hasNote {l : Launch} {E : EnvT} {d : Nat} {K : AV → Mem → Prop} {M : Mem} {r : Nat} {s : Nat} {z : Int} (hd : 1 ≤ d) (hV : VB (M r)) (hs : s < 8) (h1 : -2147483648 ≤ z) (h2 : z < 2147483648) (h : K (.int (iN (b2i (decide (0 ≤ z ∧ z < M r 4 s)))), 0) M) : CT l E d m_Choir_hasNote [(.ref r, 11), (.int (iN s), 0), (.int (iN z), 0)] M K := by
  refine CT.of pn_Choir (Nat.le_of_ble_eq_true rfl) ?_
  refine b_Choir_hasNote_0 hd ?_
  have hn := hV.le s hs
  simp (disch := omega) only [true_or, or_true, true_and, iN_lt, iN_le, iN_eq, iN_lt0, iN_le0, iN_0le, iN_0lt, iN_eq0, iN_eq1, iN_add, iN_sub, iN_mul, iN_neg, iN_clN, toI_int]
  refine ⟨fun c => ?_, fun c => ⟨iN_in (by omega) (by omega) (by omega), fun c2 => ?_, fun c2 => ?_⟩⟩
  · rw [decide_eq_false (by omega)] at h; exact h
  · rw [decide_eq_false (by omega)] at h; exact h
  · rw [decide_eq_true (by omega)] at h; exact h
theorem popc_lo (m : Nat) : 0 ≤ popc m := by
  unfold popc
  simp only [cntN]
  have := b2i_lo (m.testBit 0); have := b2i_lo (m.testBit 1); have := b2i_lo (m.testBit 2); have := b2i_lo (m.testBit 3)
  have := b2i_lo (m.testBit 4); have := b2i_lo (m.testBit 5); have := b2i_lo (m.testBit 6); have := b2i_lo (m.testBit 7)
  omega
theorem popc_hi (m : Nat) : popc m ≤ 8 := by
  unfold popc
  simp only [cntN]
  have := b2i_hi (m.testBit 0); have := b2i_hi (m.testBit 1); have := b2i_hi (m.testBit 2); have := b2i_hi (m.testBit 3)
  have := b2i_hi (m.testBit 4); have := b2i_hi (m.testBit 5); have := b2i_hi (m.testBit 6); have := b2i_hi (m.testBit 7)
  omega
theorem c_livingCount {l : Launch} {E : EnvT} {d : Nat} {K : AV → Mem → Prop} {M : Mem} {r : Nat} (hd : 2 ≤ d) (hV : VB (M r)) (h : K (.int (iN (M r 0 8 - popc (M r 0 12).toNat)), 0) M) : CT l E d m_Choir_livingCount [(.ref r, 11)] M K := by
  refine CT.of pn_Choir (Nat.le_of_ble_eq_true rfl) ?_
  have hm := hV.ms 12 (by omega) (by omega)
  refine b_Choir_livingCount_0 (by omega) (c_bitCount (by omega) hm.1 hm.2 ?_)
  rw [toI_int, iN_sub]
  exact h
def noteOfC (C : Ch) (x : Int) (b : Nat) : Int := fnd (fun k => C 6 (6 * b + k) == x) (C 4 b).toNat
theorem fndF_ge (p : Nat → Bool) : ∀ (m i : Nat), fndF p i m = -1 ∨ ∃ j : Nat, fndF p i m = j ∧ i ≤ j ∧ j < i + m ∧ p j = true ∧ ∀ q, i ≤ q → q < j → p q = false
  | 0, _ => Or.inl rfl
  | m + 1, i => by
    unfold fndF
    split
    · rename_i h; exact Or.inr ⟨i, rfl, by omega, by omega, h, fun q _ _ => by omega⟩
    · rename_i h
      rcases fndF_ge p m (i + 1) with e | ⟨j, e, h1, h2, h3, h4⟩
      · exact Or.inl e
      · refine Or.inr ⟨j, e, by omega, by omega, h3, fun q q1 q2 => ?_⟩
        by_cases hq : q = i
        · subst hq; simpa using h
        · exact h4 q (by omega) q2
theorem fndF_none (p : Nat → Bool) : ∀ (m i : Nat), fndF p i m = -1 ↔ ∀ q, i ≤ q → q < i + m → p q = false
  | 0, i => by simp [fndF]; omega
  | m + 1, i => by
    unfold fndF
    split
    · rename_i h
      constructor
      · intro e; omega
      · intro hq; rw [hq i (by omega) (by omega)] at h; cases h
    · rename_i h
      rw [fndF_none p m (i + 1)]
      constructor
      · intro hq q q1 q2
        by_cases e : q = i
        · subst e; simpa using h
        · exact hq q (by omega) (by omega)
      · intro hq q q1 q2; exact hq q (by omega) (by omega)
theorem fndF_some (p : Nat → Bool) {m i j : Nat} (h1 : i ≤ j) (h2 : j < i + m) (h3 : p j = true) (h4 : ∀ q, i ≤ q → q < j → p q = false) : fndF p i m = j := by
  rcases fndF_ge p m i with e | ⟨j', e, a1, a2, a3, a4⟩
  · rw [(fndF_none p m i).mp e j h1 h2] at h3; cases h3
  · rw [e]
    rcases Nat.lt_trichotomy j j' with c | c | c
    · rw [a4 j h1 c] at h3; cases h3
    · rw [c]
    · rw [h4 j' a1 c] at a3; cases a3
theorem slotOf_note (C : Ch) (x : Int) (b : Nat) : slotOfC C x b = if noteOfC C x b = -1 then -1 else 6 * b + noteOfC C x b := by
  unfold slotOfC noteOfC fnd
  rcases fndF_ge (fun k => C 6 (6 * b + k) == x) (C 4 b).toNat 0 with e | ⟨j, e, h1, h2, h3, h4⟩
  · rw [e, if_pos rfl, fndF_none]
    rw [fndF_none] at e
    intro q q1 q2
    have := e (q - 6 * b) (by omega) (by omega)
    rw [show 6 * b + (q - 6 * b) = q by omega] at this
    exact this
  · rw [e, if_neg (by omega)]
    rw [fndF_some (j := 6 * b + j) _ (by omega) (by omega) h3]
    · push_cast; rfl
    · intro q q1 q2
      have := h4 (q - 6 * b) (by omega) (by omega)
      rw [show 6 * b + (q - 6 * b) = q by omega] at this
      exact this
theorem slotOf_rng {C : Ch} (hV : VB C) (x : Int) {b : Nat} (hb : b < 8) : slotOfC C x b = -1 ∨ ∃ i : Nat, slotOfC C x b = i ∧ 6 * b ≤ i ∧ i < 6 * b + (C 4 b).toNat ∧ i < 48 ∧ C 6 i = x := by
  have hl := hV.le b hb
  rcases fndF_ge (fun i => C 6 i == x) (C 4 b).toNat (6 * b) with e | ⟨j, e, h1, h2, h3, -⟩
  · exact Or.inl e
  · exact Or.inr ⟨j, e, h1, h2, by omega, by simpa using h3⟩
theorem c_slotOfV {l : Launch} {E : EnvT} {d : Nat} {K : AV → Mem → Prop} {M : Mem} {r : Nat} {x : Int} {b : Nat} (hd : 1 ≤ d) (hV : VB (M r)) (hb : b < 8) (hx1 : -1 ≤ x) (hx2 : x < 100) (h : K (.int (iN (slotOfC (M r) x b)), 0) M) : CT l E d m_Choir_slotOf [(.ref r, 11), (.int (iN x), 0), (.int (iN b), 0)] M K :=
  c_slotOf hd hb hx1 hx2 (hV.le b hb).1 (hV.le b hb).2 (fun i hi => ⟨(hV.ho i hi).1, by have := (hV.ho i hi).2; omega⟩) h
def debtC (C : Ch) (x : Int) (b : Nat) : Int := if slotOfC C x b = -1 then 0 else C 7 (slotOfC C x b).toNat
theorem debtC_rng {C : Ch} (hV : VB C) (x : Int) {b : Nat} (hb : b < 8) : 0 ≤ debtC C x b ∧ debtC C x b ≤ 999 := by
  unfold debtC
  rcases slotOf_rng hV x hb with e | ⟨i, e, -, -, hi, -⟩
  · rw [e, if_pos rfl]; omega
  · rw [e, if_neg (by omega)]; exact hV.de i hi
theorem c_debtAtNote {l : Launch} {E : EnvT} {d : Nat} {K : AV → Mem → Prop} {M : Mem} {r : Nat} {x : Int} {b : Nat} (hd : 2 ≤ d) (hV : VB (M r)) (hb : b < 8) (hx1 : -1 ≤ x) (hx2 : x < 100) (h : K (.int (iN (debtC (M r) x b)), 0) M) : CT l E d m_Choir_debtAtNote [(.ref r, 11), (.int (iN x), 0), (.int (iN b), 0)] M K := by
  refine CT.of pn_Choir (Nat.le_of_ble_eq_true rfl) ?_
  refine b_Choir_debtAtNote_0 (by omega) (c_slotOfV (by omega) hV hb hx1 hx2 ?_)
  unfold debtC at h
  rcases slotOf_rng hV x hb with e | ⟨i, e, -, -, hi, -⟩
  · rw [e] at h ⊢
    simp only [toI_int]
    exact ⟨fun c => absurd trivial c, fun _ => h⟩
  · rw [e] at h ⊢
    simp only [toI_int]
    rw [iN_eq (by omega) (by omega) (by omega) (by omega)]
    rw [if_neg (by omega)] at h
    rw [iN_clN (by omega)]
    exact ⟨fun c => ⟨iN_in (by omega) (by omega) (by omega), h⟩, fun c => absurd c (by omega)⟩
def placeOfC (C : Ch) (x y : Int) : Int := fnd (fun k => C 9 k == x && C 10 k == y) (C 8 3).toNat
theorem placeOf_rng {C : Ch} (hV : VB C) (x y : Int) : placeOfC C x y = -1 ∨ ∃ i : Nat, placeOfC C x y = i ∧ i < (C 8 3).toNat ∧ i < 8 ∧ C 9 i = x ∧ C 10 i = y := by
  have hl := hV.w
  unfold placeOfC fnd
  rcases fndF_ge (fun k => C 9 k == x && C 10 k == y) (C 8 3).toNat 0 with e | ⟨j, e, h1, h2, h3, -⟩
  · exact Or.inl e
  · simp only [Bool.and_eq_true, beq_iff_eq] at h3
    exact Or.inr ⟨j, e, by omega, by omega, h3.1, h3.2⟩
theorem c_placeOf {l : Launch} {E : EnvT} {d : Nat} {K : AV → Mem → Prop} {M : Mem} {r : Nat} {x y : Int} (hd : 1 ≤ d) (hV : VB (M r)) (hx1 : -1 ≤ x) (hx2 : x < 100) (hy1 : -1 ≤ y) (hy2 : y < 100) (h : K (.int (iN (placeOfC (M r) x y)), 0) M) : CT l E d m_Waiting_placeOf [(.ref r, 19), (.int (iN x), 0), (.int (iN y), 0)] M K := by
  refine CT.of pn_Waiting (Nat.le_of_ble_eq_true rfl) ?_
  refine b_Waiting_placeOf_0 hd ?_
  have hw := hV.w
  obtain ⟨n, hn⟩ : ∃ n : Nat, M r 8 3 = n := ⟨(M r 8 3).toNat, (by omega)⟩
  have key : ∀ m i : Nat, i + m = n → placeOfC (M r) x y = fndF (fun k => M r 9 k == x && M r 10 k == y) i m → G l E d m_Waiting_placeOf 2 [(0, (.ref r, 19)), (1, (.int (iN x), 0)), (2, (.int (iN y), 0)), (3, (.int (iN i), 0))] [] M K := by
    intro m
    induction m with
    | zero =>
      intro i hi he
      refine b_Waiting_placeOf_2 hd ?_
      rw [hn]
      refine ⟨fun _ => ?_, fun c => absurd ((iN_le (by omega) (by omega) (by omega) (by omega)).mpr (by omega)) c⟩
      rw [he] at h
      exact h
    | succ m ih =>
      intro i hi he
      refine b_Waiting_placeOf_2 hd ?_
      have ha := hV.wa i (by omega)
      have hb := hV.wb i (by omega)
      rw [hn]
      simp (disch := omega) only [true_or, or_true, true_and, iN_lt, iN_le, iN_eq, iN_lt0, iN_le0, iN_0le, iN_0lt, iN_eq0, iN_eq1, iN_add, iN_sub, iN_mul, iN_neg, iN_clN, toI_int]
      refine ⟨fun c => absurd c (by omega), fun _ => ⟨iN_in (by omega) (by omega) (by omega), fun c => ?_, fun c => ⟨iN_in (by omega) (by omega) (by omega), fun c2 => ?_, fun c2 => ?_⟩⟩⟩
      · refine ih (i + 1) (by omega) ?_
        rw [he]
        simp [fndF, c]
      · refine ih (i + 1) (by omega) ?_
        rw [he]
        simp [fndF, c2]
      · rw [he] at h
        simpa [fndF, c, c2] using h
  exact key n 0 (by omega) (by unfold placeOfC fnd; rw [hn]; rfl)
def owedC (C : Ch) (x : Int) (b : Nat) : Int := debtC C x b + if placeOfC C x b = -1 then 0 else C 11 (placeOfC C x b).toNat
theorem owedC_rng {C : Ch} (hV : VB C) (x : Int) {b : Nat} (hb : b < 8) : 0 ≤ owedC C x b ∧ owedC C x b ≤ 1998 := by
  have h1 := debtC_rng hV x hb
  unfold owedC
  rcases placeOf_rng hV x b with e | ⟨i, e, -, hi, -, -⟩
  · rw [e, if_pos rfl]; omega
  · rw [e, if_neg (by omega)]
    have := hV.wm i hi
    rw [show ((i : Int)).toNat = i from rfl]
    omega
theorem c_owedBetween {l : Launch} {E : EnvT} {d : Nat} {K : AV → Mem → Prop} {M : Mem} {r : Nat} {x : Int} {b : Nat} (hd : 3 ≤ d) (hV : VB (M r)) (hb : b < 8) (hx1 : -1 ≤ x) (hx2 : x < 100) (h : K (.int (iN (owedC (M r) x b)), 0) M) : CT l E d m_Choir_owedBetween [(.ref r, 11), (.int (iN x), 0), (.int (iN b), 0)] M K := by
  refine CT.of pn_Choir (Nat.le_of_ble_eq_true rfl) ?_
  refine b_Choir_owedBetween_0 (by omega) (c_placeOf (by omega) hV hx1 hx2 (by omega) (by omega) (c_debtAtNote (by omega) hV hb hx1 hx2 ?_))
  unfold owedC at h
  rcases placeOf_rng hV x b with e | ⟨i, e, -, hi, -, -⟩
  · rw [e] at h ⊢
    simp only [toI_int, iN_add]
    exact ⟨fun c => absurd trivial c, fun _ => h⟩
  · rw [e] at h ⊢
    simp only [toI_int]
    rw [iN_eq (by omega) (by omega) (by omega) (by omega), iN_clN (by omega), iN_add]
    rw [if_neg (by omega)] at h
    exact ⟨fun c => ⟨iN_in (by omega) (by omega) (by omega), h⟩, fun c => absurd c (by omega)⟩
