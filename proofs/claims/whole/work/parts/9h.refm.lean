theorem popc_or : ∀ y : Nat, y < 256 → ∀ t : Nat, t < 8 → y.testBit t = false → popc (y ||| 2 ^ t) = popc y + 1 ∧ y < y ||| 2 ^ t := by decide +kernel
theorem popc_8 : ∀ y : Nat, y < 256 → popc y = 8 → y = 255 := by decide +kernel
theorem debt_alv {C : Ch} (hW : WC C) {s : Int} {t : Nat} (s0 : 0 ≤ s) (ht : t < 8) (h : 0 < debtC C s t) : alv C t := by
  have sn : slotOfC C s t ≠ -1 := fun q => by rw [debtC_none q] at h; omega
  obtain ⟨i, i1, i2, i3, i4, i5, i6⟩ := slotE hW.1 (x := s) (b := t) ht s0 sn
  have := (hW.2.2.1 i i3 i5).2.2.2.2.2
  rw [i2] at this
  exact this
/-- k steps on from those of y0, s0 the last -/
def ExK (C : Ch) (n : Nat) : Nat → Nat → Nat → Nat → Nat → Prop
  | 0, y0, s0, y, s => y = y0 ∧ s = s0
  | k + 1, y0, s0, y, s => ∃ t : Nat, t < n ∧ y0.testBit t = false ∧ 0 < debtC C s0 t ∧ ExK C n k (y0 ||| 2 ^ t) t y s
def EnP (C : Ch) (n y s : Nat) : Prop := ∃ k t0 : Nat, t0 < n ∧ alv C t0 ∧ ExK C n k (2 ^ t0) t0 y s
theorem ExK_snoc {C : Ch} {n : Nat} : ∀ (k y0 s0 y s t : Nat), ExK C n k y0 s0 y s → t < n → y.testBit t = false → 0 < debtC C s t → ExK C n (k + 1) y0 s0 (y ||| 2 ^ t) t
  | 0, y0, s0, y, s, t, h, h1, h2, h3 => by
    obtain ⟨rfl, rfl⟩ := h
    exact ⟨t, h1, h2, h3, rfl, rfl⟩
  | k + 1, y0, s0, y, s, t, h, h1, h2, h3 => by
    obtain ⟨t', a, b, c, e⟩ := h
    exact ⟨t', a, b, c, ExK_snoc k _ _ y s t e h1 h2 h3⟩
theorem ExK_last {C : Ch} {n : Nat} : ∀ (k y0 s0 y u : Nat), ExK C n (k + 1) y0 s0 y u → ∃ y' s', ExK C n k y0 s0 y' s' ∧ u < n ∧ y'.testBit u = false ∧ 0 < debtC C s' u ∧ y = y' ||| 2 ^ u
  | 0, y0, s0, y, u, h => by
    obtain ⟨t, a, b, c, rfl, rfl⟩ := h
    exact ⟨y0, s0, ⟨rfl, rfl⟩, a, b, c, rfl⟩
  | k + 1, y0, s0, y, u, h => by
    obtain ⟨t, a, b, c, e⟩ := h
    obtain ⟨y', s', e1, e2, e3, e4, e5⟩ := ExK_last k _ _ y u e
    exact ⟨y', s', ⟨t, a, b, c, e1⟩, e2, e3, e4, e5⟩
theorem ExK_f {C : Ch} {n : Nat} (n8 : n ≤ 8) (hW : WC C) : ∀ (k y0 s0 y s : Nat), y0 < 256 → ExK C n k y0 s0 y s → y < 256 ∧ popc y = popc y0 + k ∧ (∀ u, y.testBit u = true → y0.testBit u = true ∨ (u < n ∧ alv C u)) ∧ (y0.testBit s0 = true → y.testBit s = true)
  | 0, y0, s0, y, s, h0, h => by
    obtain ⟨rfl, rfl⟩ := h
    exact ⟨h0, by simp, fun u hu => Or.inl hu, fun q => q⟩
  | k + 1, y0, s0, y, s, h0, h => by
    obtain ⟨t, a, b, c, e⟩ := h
    have o1 := or_lt h0 (pow_lt (show t < 8 by omega))
    obtain ⟨f1, f2, f3, f4⟩ := ExK_f n8 hW k _ _ y s o1 e
    have pp := (popc_or y0 h0 t (by omega) b).1
    refine ⟨f1, by push_cast; omega, fun u hu => ?_, fun _ => f4 (by rw [Nat.testBit_or, Nat.testBit_two_pow_self, Bool.or_true])⟩
    rcases f3 u hu with q | q
    · rw [Nat.testBit_or, Bool.or_eq_true, Nat.testBit_two_pow, decide_eq_true_eq] at q
      rcases q with q | q
      · exact Or.inl q
      · subst q
        exact Or.inr ⟨a, debt_alv hW (by omega) (by omega) c⟩
    · exact Or.inr q
theorem liv_bit {C : Ch} {n : Nat} (hV : VB C) (n8 : n ≤ 8) (t : Nat) : (livM C n).testBit t = true ↔ t < n ∧ alv C t := by
  have b255 : ∀ t, t < 8 → (255 : Nat).testBit t = true := by decide
  have m := hV.ms 12 (by omega) (by omega)
  unfold livM nAnd
  rw [Nat.testBit_and, Nat.testBit_xor, Nat.testBit_two_pow_sub_one, Bool.and_eq_true, decide_eq_true_eq]
  unfold alv
  constructor
  · rintro ⟨h1, h2⟩
    refine ⟨h1, ?_⟩
    rw [b255 t (by omega)] at h2
    unfold inS
    cases q : (C 0 12).toNat.testBit t with
    | false => rfl
    | true => rw [q] at h2; cases h2
  · rintro ⟨h1, h2⟩
    refine ⟨h1, ?_⟩
    unfold inS at h2
    rw [b255 t (by omega), h2]; rfl
theorem EnP_f {C : Ch} {n y s : Nat} (n8 : n ≤ 8) (hW : WC C) (h : EnP C n y s) : y < 256 ∧ 1 ≤ popc y ∧ y ≤ livM C n ∧ y.testBit s = true := by
  obtain ⟨k, t0, h1, h2, h3⟩ := h
  have p0 := pow_lt (show t0 < 8 by omega)
  obtain ⟨f1, f2, f3, f4⟩ := ExK_f n8 hW k _ _ y s p0 h3
  have pp := popc_1 t0 (by omega)
  refine ⟨f1, (by omega), ?_, f4 (Nat.testBit_two_pow_self)⟩
  have : y &&& livM C n = y := by
    apply Nat.eq_of_testBit_eq
    intro u
    rw [Nat.testBit_and]
    cases q : y.testBit u with
    | false => rfl
    | true =>
      have : (livM C n).testBit u = true := by
        rw [liv_bit hW.1 n8]
        rcases f3 u q with w | w
        · rw [Nat.testBit_two_pow, decide_eq_true_eq] at w
          subst w
          exact ⟨h1, h2⟩
        · exact w
      rw [this]; rfl
  rw [← this]
  exact Nat.and_le_right
theorem lnS_bit (x nx : Nat) : ∀ (m s : Nat) (B : Nat → Nat) (y u : Nat), (lnS x nx s m B y).testBit u = true ↔ (B y).testBit u = true ∨ (s ≤ u ∧ u < s + m ∧ nx.testBit u = true ∧ y = x ||| 2 ^ u)
  | 0, s, B, y, u => by
    show (B y).testBit u = true ↔ _
    constructor
    · exact fun h => Or.inl h
    · rintro (h | ⟨h1, h2, -⟩)
      · exact h
      · omega
  | m + 1, s, B, y, u => by
    show (lnS x nx (s + 1) m (if nx.testBit s then updN B (x ||| 2 ^ s) (B (x ||| 2 ^ s) ||| 2 ^ s) else B) y).testBit u = true ↔ _
    rw [lnS_bit x nx m (s + 1)]
    have st : ((if nx.testBit s then updN B (x ||| 2 ^ s) (B (x ||| 2 ^ s) ||| 2 ^ s) else B) y).testBit u = true ↔ (B y).testBit u = true ∨ (u = s ∧ nx.testBit s = true ∧ y = x ||| 2 ^ s) := by
      cases hn : nx.testBit s with
      | false => simp
      | true =>
        rw [if_pos rfl]
        unfold updN
        by_cases e : y = x ||| 2 ^ s
        · rw [if_pos e, Nat.testBit_or, Bool.or_eq_true, Nat.testBit_two_pow, decide_eq_true_eq, e]
          constructor
          · rintro (q | q)
            · exact Or.inl q
            · exact Or.inr ⟨q.symm, rfl, rfl⟩
          · rintro (q | ⟨q, -⟩)
            · exact Or.inl q
            · exact Or.inr q.symm
        · rw [if_neg e]
          constructor
          · exact fun q => Or.inl q
          · rintro (q | ⟨-, -, q⟩)
            · exact q
            · exact absurd q e
    rw [st]
    constructor
    · rintro ((q | ⟨q1, q2, q3⟩) | ⟨q1, q2, q3, q4⟩)
      · exact Or.inl q
      · subst q1; exact Or.inr ⟨(by omega), (by omega), q2, q3⟩
      · exact Or.inr ⟨(by omega), (by omega), q3, q4⟩
    · rintro (q | ⟨q1, q2, q3, q4⟩)
      · exact Or.inl (Or.inl q)
      · by_cases e : u = s
        · subst e; exact Or.inl (Or.inr ⟨rfl, q3, q4⟩)
        · exact Or.inr ⟨(by omega), (by omega), q3, q4⟩
theorem nAnd_bit {x y t : Nat} (ht : t < 8) : (nAnd x y).testBit t = true ↔ x.testBit t = true ∧ y.testBit t = false := by
  have b255 : ∀ t, t < 8 → (255 : Nat).testBit t = true := by decide
  unfold nAnd
  rw [Nat.testBit_and, Nat.testBit_xor, b255 t ht, Bool.and_eq_true]
  cases y.testBit t <;> simp
theorem lnL_bit (A : Nat → Int) {n x : Nat} (n8 : n ≤ 8) : ∀ (m s : Nat) (B : Nat → Nat) (y u : Nat), (lnL A n x s m B y).testBit u = true ↔ (B y).testBit u = true ∨ (u < n ∧ y = x ||| 2 ^ u ∧ ∃ s', s ≤ s' ∧ s' < s + m ∧ (B x).testBit s' = true ∧ (nAnd (A s').toNat x).testBit u = true)
  | 0, s, B, y, u => by
    show (B y).testBit u = true ↔ _
    constructor
    · exact fun h => Or.inl h
    · rintro (h | ⟨-, -, s', h1, h2, -⟩)
      · exact h
      · omega
  | m + 1, s, B, y, u => by
    show (lnL A n x (s + 1) m (if (B x).testBit s then lnS x (nAnd (A s).toNat x) 0 n B else B) y).testBit u = true ↔ _
    rw [lnL_bit A n8 m (s + 1)]
    cases hb : (B x).testBit s with
    | false =>
      rw [if_neg (by simp)]
      constructor
      · rintro (q | ⟨q1, q2, s', q3, q4, q5⟩)
        · exact Or.inl q
        · exact Or.inr ⟨q1, q2, s', (by omega), (by omega), q5⟩
      · rintro (q | ⟨q1, q2, s', q3, q4, q5⟩)
        · exact Or.inl q
        · refine Or.inr ⟨q1, q2, s', ?_, (by omega), q5⟩
          by_cases e : s' = s
          · subst e; rw [hb] at q5; cases q5.1
          · omega
    | true =>
      rw [if_pos rfl]
      have same : ∀ w, (lnS x (nAnd (A s).toNat x) 0 n B x).testBit w = true ↔ (B x).testBit w = true := by
        intro w
        rw [lnS_bit]
        constructor
        · rintro (q | ⟨q1, q2, q3, q4⟩)
          · exact q
          · have := (nAnd_bit (show w < 8 by omega)).mp q3
            have e : x.testBit w = true := by rw [q4, Nat.testBit_or, Nat.testBit_two_pow_self, Bool.or_true]
            rw [this.2] at e; cases e
        · exact fun q => Or.inl q
      rw [lnS_bit]
      constructor
      · rintro ((q | ⟨q1, q2, q3, q4⟩) | ⟨q1, q2, s', q3, q4, q5, q6⟩)
        · exact Or.inl q
        · exact Or.inr ⟨(by omega), q4, s, (by omega), (by omega), hb, q3⟩
        · exact Or.inr ⟨q1, q2, s', (by omega), (by omega), (same s').mp q5, q6⟩
      · rintro (q | ⟨q1, q2, s', q3, q4, q5, q6⟩)
        · exact Or.inl (Or.inl q)
        · by_cases e : s' = s
          · subst e; exact Or.inl (Or.inr ⟨(by omega), (by omega), q6, q2⟩)
          · exact Or.inr ⟨q1, q2, s', (by omega), (by omega), (same s').mpr q5, q6⟩
theorem lrI_bit (lv : Nat) : ∀ (m s : Nat) (B : Nat → Nat), (∀ y u, (B y).testBit u = true ↔ (u < s ∧ y = 2 ^ u ∧ lv.testBit u = true)) → ∀ y u, (lrI lv s m B y).testBit u = true ↔ (u < s + m ∧ y = 2 ^ u ∧ lv.testBit u = true)
  | 0, s, B, h, y, u => h y u
  | m + 1, s, B, h, y, u => by
    show (lrI lv (s + 1) m (updN B (2 ^ s) (lv &&& 2 ^ s)) y).testBit u = true ↔ _
    rw [show s + (m + 1) = s + 1 + m by omega]
    refine lrI_bit lv m (s + 1) _ (fun y u => ?_) y u
    unfold updN
    by_cases e : y = 2 ^ s
    · rw [if_pos e, Nat.testBit_and, Bool.and_eq_true, Nat.testBit_two_pow, decide_eq_true_eq]
      constructor
      · rintro ⟨q1, q2⟩
        subst q2
        exact ⟨(by omega), e, q1⟩
      · rintro ⟨q1, q2, q3⟩
        rw [e] at q2
        have : (2 ^ s).testBit u = true := by rw [q2, Nat.testBit_two_pow_self]
        rw [Nat.testBit_two_pow, decide_eq_true_eq] at this
        exact ⟨q3, this⟩
    · rw [if_neg e, h y u]
      constructor
      · rintro ⟨q1, q2⟩; exact ⟨(by omega), q2⟩
      · rintro ⟨q1, q2, q3⟩
        refine ⟨?_, q2, q3⟩
        by_cases c : u = s
        · subst c; exact absurd q2 e
        · omega
