theorem livesB_alv {C : Ch} {a : Int} (h : livesB C a = true) : (0 ≤ a ∧ a < C 0 8) ∧ alv C a.toNat := by
  simp only [livesB, Bool.and_eq_true, decide_eq_true_eq, Bool.not_eq_true'] at h
  exact h
theorem livesB_iff {C : Ch} {a : Int} : livesB C a = true ↔ (0 ≤ a ∧ a < C 0 8) ∧ alv C a.toNat := by
  simp only [livesB, Bool.and_eq_true, decide_eq_true_eq, Bool.not_eq_true', alv]
theorem twoB_alv {C : Ch} {a b : Int} (h : twoB C a b = true) : ((0 ≤ a ∧ a < C 0 8) ∧ alv C a.toNat) ∧ ((0 ≤ b ∧ b < C 0 8) ∧ alv C b.toNat) ∧ a ≠ b := by
  unfold twoB at h
  rw [Bool.and_eq_true, Bool.and_eq_true] at h
  exact ⟨livesB_alv h.1, livesB_alv h.2.1, by simpa using h.2.2⟩
theorem noLine {C : Ch} (h : WC C) {a : Int} {b : Nat} (a0 : 0 ≤ a) (hb : b < 8) (e : slotOfC C a b = -1) : ∀ j, j < 48 → j / 6 = b → C 6 j ≠ a := by
  intro j hj hjb q
  have w := h.2.2.1 j hj (by omega)
  rw [hjb] at w
  unfold slotOfC at e
  have := (fndF_none (fun i => C 6 i == a) (C 4 b).toNat (6 * b)).mp e j (by omega) (by omega)
  simp only [beq_eq_false_iff_ne, ne_eq] at this
  exact this q
theorem noWait {C : Ch} {a b : Int} (e : placeOfC C a b = -1) : ∀ k : Nat, (k : Int) < C 8 3 → ¬ (C 9 k = a ∧ C 10 k = b) := by
  intro k hk q
  unfold placeOfC fnd at e
  have := (fndF_none (fun k => C 9 k == a && C 10 k == b) (C 8 3).toNat 0).mp e k (by omega) (by omega)
  simp only [q.1, q.2, beq_self_eq_true, Bool.and_self] at this
  cases this
theorem WC_owe {C : Ch} {a : Int} {b : Nat} {n : Int} (h : WC C) (a0 : 0 ≤ a) (a1 : a < C 0 8) (b1 : (b : Int) < C 0 8) (hab : a ≠ b) (la : alv C a.toNat) (lb : alv C b) (n1 : 1 ≤ n) (n2 : n ≤ 999) : WC (oweC C a b n).2 := by
  have hV := h.1
  have hn := hV.n
  unfold oweC
  split
  · rename_i c
    rcases slotOf_rng hV a (b := b) (by omega) with e | ⟨i, e, i1, i2, i3, i4⟩
    · exact absurd e c
    · rw [e]
      have d := hV.de i i3
      show WC (if C 7 i + n ≤ 999 then (true, upd2 C 7 i (C 7 i + n)) else (false, C)).2
      split
      · exact WC_7 h i3 (by omega) (by omega) (by omega)
      · exact h
  · rename_i c
    have c : slotOfC C a b = -1 := by simpa using c
    split
    · rename_i c2
      rcases placeOf_rng hV a b with e | ⟨k, e, k1, k2, k3, k4⟩
      · exact absurd e c2
      · rw [e]
        have m := h.2.2.2.2.1 k (by have := hV.w; omega)
        show WC (if C 11 k + n ≤ 999 then (true, upd2 C 11 k (C 11 k + n)) else (false, C)).2
        split
        · exact WC_11 h (by omega) (by omega)
        · exact h
    · rename_i c2
      have c2 : placeOfC C a b = -1 := by simpa using c2
      have nl := noLine h a0 (b := b) (by omega) c
      have nw := noWait c2
      split
      · split
        · rename_i c4
          refine WC_join h c4 a0 a1 (by omega) b1 hab la (by simpa using lb) nw (fun i hi q => nl i hi (by omega)) n1 n2
        · exact h
      · rename_i c3
        rcases slotOf_rng hV (-1) (b := b) (by omega) with e | ⟨i, e, i1, i2, i3, i4⟩
        · exact absurd e c3
        · rw [e]
          have le := hV.le b (by omega)
          have ib : i / 6 = b := (by omega)
          show WC (upd2 (upd2 C 6 i a) 7 i n)
          exact WC_place h i3 (by rw [ib]; exact b1) (by rw [ib]; omega) a0 a1 (by rw [ib]; exact hab) la (by rw [ib]; exact lb) (fun j hj hl => nl j hj (by omega)) (fun k hk q r => nw k hk ⟨r, by rw [q, ib]⟩) n1 n2
theorem leave_place (C : Ch) (i k : Nat) (a v : Int) : leaveC (upd2 (upd2 C 6 i a) 7 i v) k = upd2 (upd2 (leaveC C k) 6 i a) 7 i v := by
  have e8 : upd2 (upd2 C 6 i a) 7 i v 8 3 = C 8 3 := by simp [upd2]
  unfold leaveC
  rw [e8]
  funext c j
  by_cases c8 : c = 8 ∧ j = 3
  · obtain ⟨rfl, rfl⟩ := c8; simp [upd2]
  · by_cases c6 : c = 6
    · subst c6
      simp [upd2, shC]
    · by_cases c7 : c = 7
      · subst c7
        simp [upd2, shC]
      · simp [upd2, shC, c6, c7]
theorem WC_settleF : ∀ (f k : Nat) {C : Ch}, WC C → WC (settleF f k C)
  | 0, _, _, h => h
  | f + 1, k, C, h => by
    have hV := h.1
    have hn := hV.n
    have hs := hV.w
    unfold settleF
    split
    · rename_i ck
      have wb := hV.wb k (by omega)
      have wa := hV.wa k (by omega)
      have wm := hV.wm k (by omega)
      have w4 := h.2.2.2.2.1 k ck
      split
      · exact WC_settleF f (k + 1) h
      · rename_i c
        rcases slotOf_rng hV (-1) (b := (C 10 k).toNat) (by omega) with e | ⟨i, e, i1, i2, i3, i4⟩
        · exact absurd e c
        · rw [e]
          refine WC_settleF f k ?_
          show WC (leaveC (upd2 (upd2 C 6 i (C 9 k)) 7 i (C 11 k)) k)
          rw [leave_place]
          have hl := WC_leave h ck
          have le := hV.le (C 10 k).toNat (by omega)
          have ib : i / 6 = (C 10 k).toNat := (by omega)
          have z0 : leaveC C k 0 = C 0 := leaveC_c (by omega)
          have z4 : leaveC C k 4 = C 4 := leaveC_c (by omega)
          have z6 : leaveC C k 6 = C 6 := leaveC_c (by omega)
          refine WC_place hl i3 ?_ ?_ wa.1 ?_ ?_ ?_ ?_ ?_ ?_ w4.2.2.2.1 wm.2
          · rw [z0, ib]; omega
          · rw [z4, ib]; omega
          · rw [z0]; exact w4.1
          · rw [ib]; have := w4.2.2.1; omega
          · unfold alv; rw [z0]; exact w4.2.2.2.2.1
          · unfold alv; rw [z0, ib]; exact w4.2.2.2.2.2
          · intro j hj hjl
            rw [z6]
            exact h.2.2.2.2.2.2.1 k ck j hj (by rw [hjl, ib]; omega)
          · intro j hj q r
            rw [leaveC_8] at hj
            rw [leaveC_at C k (Or.inr (Or.inl rfl)) j hj, ib] at q
            rw [leaveC_at C k (Or.inl rfl) j hj] at r
            have := h.2.2.2.2.2.1 (if k ≤ j then j + 1 else j) k (by split <;> omega) ck r (by rw [q]; omega)
            split at this <;> omega
    · exact h
theorem WC_settle {C : Ch} (h : WC C) : WC (settleC C) := WC_settleF 8 0 h
theorem slotE {C : Ch} (hV : VB C) {x : Int} {b : Nat} (hb : b < 8) (x0 : 0 ≤ x) (h : slotOfC C x b ≠ -1) : ∃ i : Nat, slotOfC C x b = i ∧ i / 6 = b ∧ i < 48 ∧ C 6 i = x ∧ C 6 i ≠ -1 ∧ i < 6 * b + (C 4 b).toNat := by
  rcases slotOf_rng hV x hb with e | ⟨i, e, i1, i2, i3, i4⟩
  · exact absurd e h
  · have le := hV.le b hb
    exact ⟨i, e, (by omega), i3, i4, (by omega), i2⟩
theorem WC_pay {C : Ch} {a b n : Int} (h : WC C) (h1 : 0 ≤ n) : WC (payC C a b n).2 := by
  have hV := h.1
  have hn := hV.n
  unfold payC
  split
  · rename_i c
    obtain ⟨c1, c2, c3, c4, c5⟩ := c
    obtain ⟨⟨ta, la⟩, ⟨tb, lb⟩, hab⟩ := twoB_alv c1
    obtain ⟨i, e, i1, i2, i3, i4, i5⟩ := slotE hV (b := b.toNat) (by omega) ta.1 c2
    rw [e] at c3 ⊢
    have w := h.hand (a := a.toNat) (b := b.toNat) (n := n) (by omega) (by omega) la lb h1 c4 c5
    have e6 : handC C a.toNat b.toNat n 6 = C 6 := handC_c (by decide) (by decide)
    have e7 : handC C a.toNat b.toNat n 7 = C 7 := handC_c (by decide) (by decide)
    exact WC_settle (WC_takeOff w i2 (by rw [e6]; exact i4) h1 (by rw [e7]; exact c3))
  · exact h
theorem WC_net {C : Ch} {a b : Int} (h : WC C) : WC (netC C a b).2 := by
  have hV := h.1
  have hn := hV.n
  unfold netC
  split
  · rename_i c
    obtain ⟨c1, c2, c3⟩ := c
    obtain ⟨⟨ta, la⟩, ⟨tb, lb⟩, hab⟩ := twoB_alv c1
    obtain ⟨i, e, i1, i2, i3, i4, i5⟩ := slotE hV (b := b.toNat) (by omega) ta.1 c2
    obtain ⟨j, e', j1, j2, j3, j4, j5⟩ := slotE hV (b := a.toNat) (by omega) tb.1 c3
    rw [e, e']
    have di := hV.de i i2
    have dj := hV.de j j2
    have ij : j ≠ i := (by omega)
    show WC (settleC (takeOffC (takeOffC C i (min (C 7 i) (C 7 j))) j (min (C 7 i) (C 7 j))))
    have w := WC_takeOff (n := min (C 7 i) (C 7 j)) h i2 i4 (by omega) (by omega)
    refine WC_settle (WC_takeOff w j2 ?_ (by omega) ?_)
    · unfold takeOffC
      split
      · rw [upd2_k _ _ ij, upd2_c _ _ (by decide)]; exact j4
      · rw [upd2_c _ _ (by decide)]; exact j4
    · rw [takeOffC_7 ij]; omega
  · exact h
theorem WC_netRow (a : Nat) : ∀ (m b : Nat) {q : Int × Ch}, WC q.2 → WC (netRow a m b q).2
  | 0, _, _, h => h
  | m + 1, b, q, h => by unfold netRow; exact WC_netRow a m (b + 1) (WC_net h)
theorem WC_netAllF (n : Nat) : ∀ (m a : Nat) {q : Int × Ch}, WC q.2 → WC (netAllF n m a q).2
  | 0, _, _, h => h
  | m + 1, a, q, h => by unfold netAllF; exact WC_netAllF n m (a + 1) (WC_netRow a _ _ h)
theorem WC_netAll {C : Ch} (h : WC C) : WC (netAllC C).2 := WC_netAllF _ _ _ h
theorem WC_lend {C : Ch} {a b n : Int} (h : WC C) (n1 : 1 ≤ n) (n2 : n ≤ 999) : WC (lendC C a b n).2 := by
  have hV := h.1
  have hn := hV.n
  unfold lendC
  split
  · rename_i c
    obtain ⟨c1, c2, c3, c4, c5⟩ := c
    obtain ⟨⟨ta, la⟩, ⟨tb, lb⟩, hab⟩ := twoB_alv c1
    have pa := hV.pu a.toNat (by omega)
    have pb := hV.pu b.toNat (by omega)
    have w := WC_owe (a := b) (b := a.toNat) (n := n) h tb.1 tb.2 (by omega) (by omega) lb la n1 n2
    have e0 : (oweC C b a.toNat n).2 0 = C 0 := oweC_c (by omega)
    have q1 : WC (upd2 (oweC C b a.toNat n).2 2 a.toNat (C 2 a.toNat - n)) := WC_2 w (by omega) (by omega) (fun q => by rw [e0] at q; unfold alv at la; rw [la] at q; cases q)
    exact WC_2 q1 (by omega) (by omega) (fun q => by rw [upd2_c _ _ (by decide : 0 ≠ 2), e0] at q; unfold alv at lb; rw [lb] at q; cases q)
  · exact h
theorem grownC_0 {h x : Int} (h1 : 0 ≤ h) (h2 : h ≤ 50) (x1 : 0 ≤ x) (x2 : x ≤ 999) : grownC h x = 0 ↔ x = 0 := by
  unfold grownC
  split
  · exact Iff.rfl
  · have : 0 ≤ x * h / 100 := Int.ediv_nonneg (Int.mul_nonneg x1 h1) (by omega)
    omega
theorem WC_sunC {C : Ch} (h : WC C) : WC (sunC C).2 := by
  have hV' := VB_sunC h.1
  obtain ⟨hV, w1, w2, w3, w4, w5, w6, w7, w8, w9, w10⟩ := id h
  have hh := hV.hum
  unfold sunC at hV' ⊢
  split
  · rename_i c
    rw [if_pos c] at hV'
    show WC (sunP C (C 0 8).toNat 0)
    have hV' : VB (sunP C (C 0 8).toNat 0) := hV'
    have ec : ∀ c, c ≠ 7 → c ≠ 0 → sunP C (C 0 8).toNat 0 c = C c := by
      intro c c7 c0
      funext i
      unfold sunP
      rw [if_neg (fun q => c7 q.1), if_neg (fun q => c0 q.1)]
    have e0 : ∀ k, k ≠ 14 → sunP C (C 0 8).toNat 0 0 k = C 0 k := by
      intro k hk
      unfold sunP
      rw [if_neg (fun q => absurd q.1 (by decide)), if_neg (fun q => hk q.2)]
    have e8 := e0 8 (by omega)
    have e12 := e0 12 (by omega)
    have e2 := ec 2 (by omega) (by omega)
    have e3 := ec 3 (by omega) (by omega)
    have e4 := ec 4 (by omega) (by omega)
    have e6 := ec 6 (by omega) (by omega)
    have e83 := ec 8 (by omega) (by omega)
    have e9 := ec 9 (by omega) (by omega)
    have e10 := ec 10 (by omega) (by omega)
    have e11 := ec 11 (by omega) (by omega)
    refine ⟨hV', ?_, ?_, ?_, ?_, ?_, ?_, ?_, ?_, ?_, ?_⟩
    · intro i hi
      rw [e6, w1 i hi]
      unfold sunP
      split
      · have d := hV.de i hi
        exact (grownC_0 hh.1 hh.2 d.1 d.2).symm
      · rw [if_neg (fun q => absurd q.1 (by decide))]
    · simp only [W2, alv, e8, e12, e4, e6]; exact w2
    · simp only [W3, e6]; exact w3
    · simp only [W4, alv, e8, e12, e83, e9, e10, e11]; exact w4
    · simp only [W5, e83, e9, e10]; exact w5
    · simp only [W6, e83, e9, e10, e6]; exact w6
    · simp only [W7, e8, e4]; exact w7
    · intro j j1 j2 s hs
      rw [e8] at hs
      rw [e0 j (by omega)]
      exact w8 j j1 j2 s hs
    · simp only [W9, e8, e3]; exact w9
    · simp only [W10, e8, e12, e2]; exact w10
  · exact h
theorem setB_in0 : ∀ m : Nat, m < 256 → ∀ s : Nat, s < 8 → ∀ t : Nat, t < 8 → (m ||| 2 ^ s).testBit t = (m.testBit t || decide (t = s)) := by decide +kernel
theorem clrB_in0 : ∀ m : Nat, m < 256 → ∀ s : Nat, s < 8 → ∀ t : Nat, t < 8 → (m &&& (255 - 2 ^ s)).testBit t = (m.testBit t && decide (t ≠ s)) := by decide +kernel
theorem tb8 {m t : Nat} (h : m < 256) (ht : 8 ≤ t) : m.testBit t = false := Nat.testBit_lt_two_pow (Nat.lt_of_lt_of_le h (Nat.pow_le_pow_right (n := 2) (by decide) ht))
theorem inS_setB {m : Int} {s : Nat} (h1 : 0 ≤ m) (h2 : m < 256) (hs : s < 8) (t : Nat) : inS (setB m s) t = (inS m t || decide (t = s)) := by
  obtain ⟨k, rfl⟩ : ∃ k : Nat, m = k := ⟨m.toNat, (by omega)⟩
  rw [setB_nat, inS_nat, inS_nat]
  by_cases ht : t < 8
  · exact setB_in0 k (by omega) s hs t ht
  · rw [tb8 (or_lt (by omega) (pow_lt hs)) (by omega), tb8 (by omega) (by omega)]
    simp; omega
theorem inS_clrB {m : Int} {s : Nat} (h1 : 0 ≤ m) (h2 : m < 256) (hs : s < 8) (t : Nat) : inS (clrB m s) t = (inS m t && decide (t ≠ s)) := by
  obtain ⟨k, rfl⟩ : ∃ k : Nat, m = k := ⟨m.toNat, (by omega)⟩
  unfold clrB
  rw [show ((k : Int)).toNat = k from rfl, inS_nat, inS_nat]
  by_cases ht : t < 8
  · exact clrB_in0 k (by omega) s hs t ht
  · rw [tb8 (Nat.lt_of_le_of_lt Nat.and_le_left (by omega)) (by omega), tb8 (by omega) (by omega)]
    simp
theorem WC_m {C : Ch} {j : Nat} {v : Int} (h : WC C) (j1 : 9 ≤ j) (j2 : j ≤ 11) (hV' : VB (upd2 C 0 j v)) (hb : ∀ s : Nat, C 0 8 ≤ s → inS v s = false) : WC (upd2 C 0 j v) := by
  obtain ⟨hV, w1, w2, w3, w4, w5, w6, w7, w8, w9, w10⟩ := h
  have k8 : upd2 C 0 j v 0 8 = C 0 8 := upd2_k _ _ (by omega)
  have k12 : upd2 C 0 j v 0 12 = C 0 12 := upd2_k _ _ (by omega)
  refine ⟨hV', ?_, ?_, ?_, ?_, ?_, ?_, ?_, ?_, ?_, ?_⟩
  · simp (disch := decide) only [W1, upd2_c]; exact w1
  · simp (disch := decide) only [W2, alv, upd2_c, k8, k12]; exact w2
  · simp (disch := decide) only [W3, upd2_c]; exact w3
  · simp (disch := decide) only [W4, alv, upd2_c, k8, k12]; exact w4
  · simp (disch := decide) only [W5, upd2_c]; exact w5
  · simp (disch := decide) only [W6, upd2_c]; exact w6
  · simp (disch := decide) only [W7, upd2_c, k8]; exact w7
  · intro i i1 i2 s hs
    rw [k8] at hs
    rw [upd2_at]
    split
    · exact hb s hs
    · exact w8 i i1 i2 s hs
  · simp (disch := decide) only [W9, upd2_c, k8]; exact w9
  · simp (disch := decide) only [W10, upd2_c, k8, k12]; exact w10
theorem WC_cold1 {C : Ch} {s : Nat} (h : WC C) (hs : (s : Int) < C 0 8) : WC (upd2 C 0 11 (setB (C 0 11) s)) := by
  have m := h.1.ms 11 (by omega) (by omega)
  have hn := h.1.n
  have r := setB_rng (s := s) m.1 m.2 (by omega)
  refine WC_m h (by omega) (by omega) (VB_f11 h.1 r.1 r.2) (fun t ht => ?_)
  rw [inS_setB m.1 m.2 (by omega), h.2.2.2.2.2.2.2.2.1 11 (by omega) (by omega) t ht]
  simp; omega
theorem WC_cold0 {C : Ch} {s : Nat} (h : WC C) (hs : s < 8) : WC (upd2 C 0 11 (clrB (C 0 11) s)) := by
  have m := h.1.ms 11 (by omega) (by omega)
  have r := clrB_rng (s := s) m.1 m.2 hs
  refine WC_m h (by omega) (by omega) (VB_f11 h.1 r.1 r.2) (fun t ht => ?_)
  rw [inS_clrB m.1 m.2 hs, h.2.2.2.2.2.2.2.2.1 11 (by omega) (by omega) t ht]
  rfl
theorem WC_coldF (s : Nat) : ∀ (m b : Nat) {C : Ch}, (s : Int) < C 0 8 → alv C s → b + m ≤ 8 → WC C → WC (coldF s m b C)
  | 0, _, _, _, _, _, h => h
  | m + 1, b, C, hs, la, hb, h => by
    have hV := h.1
    have hn := hV.n
    unfold coldF
    split
    · exact WC_coldF s m (b + 1) hs la (by omega) h
    · rename_i c
      obtain ⟨i, e, i1, i2, i3, i4, i5⟩ := slotE hV (b := b) (by omega) (by omega) c
      rw [e]
      have w2 := h.2.2.1 i i2 i4
      rw [i1] at w2
      have d := hV.de i i2
      have pa := hV.pu s (by omega)
      have pb := hV.pu b (by omega)
      show WC (coldF s m (b + 1) (takeOffC (handC C s b (min (C 7 i) (min (C 2 s) (9999 - C 2 b)))) i (min (C 7 i) (min (C 2 s) (9999 - C 2 b)))))
      have e6 : ∀ n, handC C s b n 6 = C 6 := fun n => handC_c (by decide) (by decide)
      have e7 : ∀ n, handC C s b n 7 = C 7 := fun n => handC_c (by decide) (by decide)
      have w := h.hand (a := s) (b := b) (n := min (C 7 i) (min (C 2 s) (9999 - C 2 b))) hs w2.1 la w2.2.2.2.2.2 (by omega) (by omega) (by omega)
      have z0 : ∀ k, k ≠ 15 → takeOffC (handC C s b (min (C 7 i) (min (C 2 s) (9999 - C 2 b)))) i (min (C 7 i) (min (C 2 s) (9999 - C 2 b))) 0 k = C 0 k := by
        intro k hk
        rw [takeOffC_c (by decide) (by decide)]
        unfold handC
        rw [upd2_k _ _ hk, upd2_c _ _ (by decide), upd2_c _ _ (by decide)]
      refine WC_coldF s m (b + 1) (by rw [z0 8 (by omega)]; exact hs) (by unfold alv; rw [z0 12 (by omega)]; exact la) (by omega) (WC_takeOff w i2 (by rw [e6]; exact i4) (by omega) (by rw [e7]; omega))
theorem WC_cold {C : Ch} {z : Int} (h : WC C) : WC (coldC C z).2 := by
  have hn := h.1.n
  unfold coldC
  split
  · rename_i c
    obtain ⟨t, la⟩ := livesB_alv c.1
    have w := WC_coldF z.toNat (C 0 8).toNat 0 (C := C) (by omega) la (by omega) h
    have e8 := coldF_0 z.toNat (j := 8) (by omega) (C 0 8).toNat 0 C
    have e11 := coldF_0 z.toNat (j := 11) (by omega) (C 0 8).toNat 0 C
    have q := WC_cold1 (s := z.toNat) w (by rw [e8]; omega)
    rw [e11] at q
    exact WC_settle q
  · exact h
