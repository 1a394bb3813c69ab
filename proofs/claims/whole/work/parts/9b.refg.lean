theorem one_bit8 : ∀ s : Nat, s < 9 → (iN 1 <<< (iN (s : Int) &&& 31)) = iN ((2 ^ s : Nat) : Int) := by decide +kernel
theorem pow_lt8 {n : Nat} (h : n ≤ 8) : 2 ^ n ≤ 256 := by
  have : 2 ^ n ≤ 2 ^ 8 := Nat.pow_le_pow_right (by decide) h
  omega
theorem msk_bit (p : Nat → Bool) : ∀ n, n ≤ 8 → ∀ t, (msk p n).testBit t = (decide (t < n) && p t)
  | 0, _, t => by rw [show msk p 0 = 0 from rfl, Nat.zero_testBit, decide_eq_false (by omega)]; rfl
  | n + 1, h, t => by
    have ih := msk_bit p n (by omega) t
    have lt := msk_lt p n (by omega)
    show (if p n then msk p n ||| 2 ^ n else msk p n).testBit t = _
    by_cases t8 : t < 8
    · by_cases e : t = n
      · subst e
        rw [decide_eq_true (by omega)]
        split
        · rename_i c
          rw [setB_in0 _ lt t t8 t t8, c, decide_eq_true rfl, Bool.or_true]; rfl
        · rename_i c
          rw [ih, decide_eq_false (by omega)]
          simp [c]
      · have q : decide (t < n + 1) = decide (t < n) := by
          by_cases c : t < n
          · rw [decide_eq_true c, decide_eq_true (by omega)]
          · rw [decide_eq_false c, decide_eq_false (by omega)]
        rw [q]
        split
        · rw [setB_in0 _ lt n (by omega) t t8, ih, decide_eq_false e, Bool.or_false]
        · exact ih
    · rw [decide_eq_false (by omega), Bool.false_and]
      split
      · exact tb8 (or_lt lt (pow_lt (by omega))) (by omega)
      · exact tb8 lt (by omega)
theorem nAnd_0 {x y : Nat} (hx : x < 256) : nAnd x y = 0 ↔ ∀ t, t < 8 → x.testBit t = true → y.testBit t = true := by
  have b255 : ∀ t, t < 8 → (255 : Nat).testBit t = true := by decide
  constructor
  · intro h t ht hb
    have q : (nAnd x y).testBit t = false := by rw [h, Nat.zero_testBit]
    unfold nAnd at q
    rw [Nat.testBit_and, Nat.testBit_xor, hb, b255 t ht] at q
    cases hy : y.testBit t with
    | true => rfl
    | false => rw [hy] at q; cases q
  · intro h
    apply Nat.eq_of_testBit_eq
    intro t
    unfold nAnd
    rw [Nat.testBit_and, Nat.testBit_xor, Nat.zero_testBit]
    by_cases ht : t < 8
    · cases hb : x.testBit t with
      | false => rfl
      | true => rw [h t ht hb, b255 t ht]; rfl
    · rw [tb8 hx (by omega)]; rfl
theorem exF_iff (p : Nat → Bool) : ∀ m i, exF p i m = true ↔ ∃ k, i ≤ k ∧ k < i + m ∧ p k = true
  | 0, i => by
    constructor
    · intro h; cases h
    · rintro ⟨k, h1, h2, -⟩; omega
  | m + 1, i => by
    show (p i || exF p (i + 1) m) = true ↔ _
    rw [Bool.or_eq_true, exF_iff p m (i + 1)]
    constructor
    · rintro (h | ⟨k, h1, h2, h3⟩)
      · exact ⟨i, (by omega), (by omega), h⟩
      · exact ⟨k, (by omega), (by omega), h3⟩
    · rintro ⟨k, h1, h2, h3⟩
      by_cases e : k = i
      · subst e; exact Or.inl h3
      · exact Or.inr ⟨k, (by omega), (by omega), h3⟩
/-- for each two of n, the one or the other in x, or nothing owed -/
def covP (C : Ch) (x s t : Nat) : Prop := s = t ∨ x.testBit s = true ∨ x.testBit t = true ∨ owedC C s t = 0
theorem cov_iff {C T : Ch} {n x : Nat} (hV : VB C) (n8 : n ≤ 8) (hT : LK T C n) : eachB (T 3) n x = true ↔ ∀ s, s < n → ∀ t, t < n → covP C x s t := by
  unfold eachB
  rw [Bool.not_eq_true', ← Bool.not_eq_true, exF_iff]
  constructor
  · intro h s hs t ht
    by_cases e : s = t
    · exact Or.inl e
    refine Or.inr ?_
    cases hb : x.testBit s with
    | true => exact Or.inl rfl
    | false =>
      refine Or.inr ?_
      cases hc : x.testBit t with
      | true => exact Or.inl rfl
      | false =>
        refine Or.inr ?_
        have r := owedC_rng hV (s : Int) (b := t) (by omega)
        by_cases c : owedC C s t = 0
        · exact c
        · refine absurd ⟨s, (by omega), (by omega), ?_⟩ h
          unfold eachP
          rw [hb, (hT.2.2 s hs).2.2]
          have : ¬ nAnd (msk (lkA C s) n) x = 0 := by
            rw [nAnd_0 (msk_lt _ n n8)]
            intro q
            have := q t (by omega) (by rw [msk_bit _ n n8, decide_eq_true ht]; unfold lkA; rw [decide_eq_true e, decide_eq_true (by omega)]; rfl)
            rw [hc] at this
            cases this
          show (!false && (nAnd (((msk (lkA C s) n : Nat) : Int)).toNat x != 0)) = true
          rw [show (((msk (lkA C s) n : Nat) : Int)).toNat = msk (lkA C s) n from rfl]
          simp [this]
  · rintro h ⟨s, -, hs, hp⟩
    have hs : s < n := (by omega)
    unfold eachP at hp
    rw [(hT.2.2 s hs).2.2, show (((msk (lkA C s) n : Nat) : Int)).toNat = msk (lkA C s) n from rfl, Bool.and_eq_true, bne_iff_ne, Bool.not_eq_true'] at hp
    refine hp.2 ((nAnd_0 (msk_lt _ n n8)).mpr (fun t ht hb => ?_))
    rw [msk_bit _ n n8, Bool.and_eq_true, decide_eq_true_eq] at hb
    unfold lkA at hb
    rw [Bool.and_eq_true, decide_eq_true_eq, decide_eq_true_eq] at hb
    rcases h s hs t hb.1 with q | q | q | q
    · exact absurd q hb.2.1
    · rw [hp.1] at q; cases q
    · exact q
    · omega
def betP (x y : Nat) : Prop := popc x < popc y ∨ (popc x = popc y ∧ x ≤ y)
theorem laF_least {A : Nat → Int} {n N : Nat} : ∀ (m b : Nat), m ≤ N → b < N → eachB A n b = true → (∀ y, m ≤ y → y < N → eachB A n y = true → betP b y) → eachB A n (laF A n m b) = true ∧ laF A n m b < N ∧ ∀ y, y < N → eachB A n y = true → betP (laF A n m b) y
  | 0, b, _, hb, h1, h2 => ⟨h1, hb, fun y hy hc => h2 y (by omega) hy hc⟩
  | m + 1, b, hm, hb, h1, h2 => by
    show eachB A n (if decide (popc m ≤ popc b) && eachB A n m then laF A n m m else laF A n m b) = true ∧ (if decide (popc m ≤ popc b) && eachB A n m then laF A n m m else laF A n m b) < N ∧ ∀ y, y < N → eachB A n y = true → betP (if decide (popc m ≤ popc b) && eachB A n m then laF A n m m else laF A n m b) y
    by_cases c : popc m ≤ popc b ∧ eachB A n m = true
    · rw [if_pos (by rw [decide_eq_true c.1, c.2]; rfl)]
      refine laF_least m m (by omega) (by omega) c.2 (fun y h3 h4 h5 => ?_)
      by_cases e : y = m
      · subst e; exact Or.inr ⟨rfl, Nat.le_refl _⟩
      · have := h2 y (by omega) h4 h5
        unfold betP at this ⊢
        omega
    · rw [if_neg (by rw [Bool.and_eq_true, decide_eq_true_eq]; exact c)]
      refine laF_least m b (by omega) hb h1 (fun y h3 h4 h5 => ?_)
      by_cases e : y = m
      · subst e
        refine Or.inl ?_
        have : ¬ popc y ≤ popc b := fun q => c ⟨q, h5⟩
        omega
      · exact h2 y (by omega) h4 h5
theorem full_bit {n t : Nat} (h : t < n) : (2 ^ n - 1).testBit t = true := by rw [Nat.testBit_two_pow_sub_one, decide_eq_true h]
theorem r_askOf {l : Launch} {E : EnvT} {d : Nat} {K : AV → Mem → Prop} {M : Mem} {C Z T : Ch} {A : Nat → Int} {n : Nat} (hd : 7 ≤ d) (hB : Z 0 21 = 0) (hV : VB C) (hR : RR C A 0) (hn : C 0 8 = n) (hT : LK T C n) (h : K (.int (iN (laF (T 3) n (2 ^ n - 1) (2 ^ n - 1) : Nat)), 0) (zA M Z A)) : CT l E d m_Mod_askOf [(.ref 24, 41)] (zA M Z A) K := by
  refine CT.of pn_Mod (Nat.le_of_ble_eq_true rfl) ?_
  have hnn := hV.n
  have n8 : n ≤ 8 := (by omega)
  have p8 := pow_lt8 n8
  have p1 : 1 ≤ 2 ^ n := Nat.one_le_two_pow
  have full : eachB (T 3) n (2 ^ n - 1) = true := (cov_iff hV n8 hT).mpr (fun s hs t ht => Or.inr (Or.inl (full_bit hs)))
  obtain ⟨l1, l2, l3⟩ := laF_least (A := T 3) (n := n) (N := 2 ^ n) (2 ^ n - 1) (2 ^ n - 1) (by omega) (by omega) full (fun y h1 h2 _ => by
    have : y = 2 ^ n - 1 := (by omega)
    subst this
    exact Or.inr ⟨rfl, Nat.le_refl _⟩)
  generalize laF (T 3) n (2 ^ n - 1) (2 ^ n - 1) = r at h l1 l2 l3
  have key : ∀ (f k : Nat) (b : Int), k + f = 2 ^ n → ((b = -1 ∧ ∀ y, y < k → ¬ eachB (T 3) n y = true) ∨ (∃ c : Nat, b = c ∧ eachB (T 3) n c = true ∧ c < k ∧ ∀ y, y < k → eachB (T 3) n y = true → betP c y)) → G l E d m_Mod_askOf 4 [(0, (.ref 24, 41)), (1, (.int (iN b), 0)), (2, (.int (iN (k : Int)), 0))] [] (zA M Z A) K := by
    intro f
    induction f with
    | zero =>
      intro k b e1 e2
      refine b_Mod_askOf_4 (by omega) ?_
      simp only [zA_1]
      rw [clA (z := 0) (j := 0 + 0) (by omega) (by omega), hR.1.1, hn, one_bit8 n (by omega)]
      refine ⟨inA (by omega) (by omega), fun _ => ?_, fun c => absurd ((iN_le (by omega) (by omega) (by omega) (by omega)).mpr (by omega)) c⟩
      rcases e2 with ⟨-, q⟩ | ⟨c, rfl, q1, q2, q3⟩
      · exact absurd full (q _ (by omega))
      · have w1 := q3 r (by omega) l1
        have w2 := l3 c (by omega) q1
        have : c = r := by unfold betP at w1 w2; omega
        rw [this]
        exact h
    | succ f ih =>
      intro k b e1 e2
      have k2 : k < 256 := (by omega)
      have pk1 := popc_lo k
      have pk2 := popc_hi k
      refine b_Mod_askOf_4 (by omega) ?_
      simp only [zA_1]
      rw [clA (z := 0) (j := 0 + 0) (by omega) (by omega), hR.1.1, hn, one_bit8 n (by omega)]
      refine ⟨inA (by omega) (by omega), fun c => absurd ((iN_le (by omega) (by omega) (by omega) (by omega)).mp c) (by omega), fun _ => ?_⟩
      have br : -1 ≤ b ∧ b < 256 := by
        rcases e2 with ⟨q, -⟩ | ⟨c, rfl, -, q, -⟩ <;> omega
      have scan : ∀ v : Bool, (v = true ↔ (b = -1 ∨ popc k < popc b.toNat)) → G l E d m_Mod_askOf 41 [(0, (.ref 24, 41)), (1, (.int (iN b), 0)), (2, (.int (iN (k : Int)), 0)), (3, (.int (iN (b2i v)), 0)), (4, (.int (iN 0), 0))] [] (zA M Z A) K := by
        intro v hv
        have fin : ∀ w : Bool, (w = true ↔ v = true ∧ eachB (T 3) n k = true) → ((iN (b2i w) = 0 → G l E d m_Mod_askOf 4 [(0, (.ref 24, 41)), (1, (.int (iN b), 0)), (2, (.int (iN ((k : Int) + 1)), 0))] [] (zA M Z A) K) ∧ (¬ iN (b2i w) = 0 → G l E d m_Mod_askOf 4 [(0, (.ref 24, 41)), (1, (.int (iN (k : Int)), 0)), (2, (.int (iN ((k : Int) + 1)), 0))] [] (zA M Z A) K)) := by
          intro w hw
          rw [b2i_z]
          refine ⟨fun c => ih (k + 1) b (by omega) ?_, fun c => ih (k + 1) k (by omega) ?_⟩
          · rw [c] at hw
            have nw : ¬ (v = true ∧ eachB (T 3) n k = true) := fun q => by cases hw.mpr q
            rw [hv] at nw
            rcases e2 with ⟨q1, q2⟩ | ⟨c, rfl, q1, q2, q3⟩
            · refine Or.inl ⟨q1, fun y hy hc => ?_⟩
              by_cases e : y = k
              · subst e; exact nw ⟨Or.inl q1, hc⟩
              · exact q2 y (by omega) hc
            · refine Or.inr ⟨c, rfl, q1, (by omega), fun y hy hc => ?_⟩
              by_cases e : y = k
              · subst e
                have : ¬ popc y < popc c := fun q => nw ⟨Or.inr q, hc⟩
                unfold betP
                omega
              · exact q3 y (by omega) hc
          · rw [Bool.not_eq_false] at c
            obtain ⟨v1, v2⟩ := hw.mp c
            refine Or.inr ⟨k, rfl, v2, (by omega), fun y hy hc => ?_⟩
            by_cases e : y = k
            · subst e; exact Or.inr ⟨rfl, Nat.le_refl _⟩
            · rcases hv.mp v1 with q | q
              · rcases e2 with ⟨-, q2⟩ | ⟨c, rfl, -, -, -⟩
                · exact absurd hc (q2 y (by omega))
                · omega
              · rcases e2 with ⟨q1, q2⟩ | ⟨c, rfl, q1, q2, q3⟩
                · exact absurd hc (q2 y (by omega))
                · have := q3 y (by omega) hc
                  rw [show ((c : Int)).toNat = c from rfl] at q
                  unfold betP at this ⊢
                  omega
        have row : ∀ (g s : Nat) (w : Bool), s + g = n → (w = true ↔ v = true ∧ ∀ s', s' < s → ∀ t, t < n → covP C k s' t) → G l E d m_Mod_askOf 41 [(0, (.ref 24, 41)), (1, (.int (iN b), 0)), (2, (.int (iN (k : Int)), 0)), (3, (.int (iN (b2i w)), 0)), (4, (.int (iN (s : Int)), 0))] [] (zA M Z A) K := by
          intro g
          induction g with
          | zero =>
            intro s w g1 g2
            have : s = n := (by omega)
            subst this
            rw [← cov_iff hV n8 hT] at g2
            refine b_Mod_askOf_41 (by omega) ?_
            simp only [zA_1]
            rw [clA (z := 0) (j := 0 + 0) (by omega) (by omega), hR.1.1, hn, iN_add]
            exact ⟨inA (by omega) (by omega), fun _ => fin w g2, fun c => absurd ((iN_le (by omega) (by omega) (by omega) (by omega)).mpr (by omega)) c⟩
          | succ g ihg =>
            intro s w g1 g2
            refine b_Mod_askOf_41 (by omega) ?_
            simp only [zA_1]
            rw [clA (z := 0) (j := 0 + 0) (by omega) (by omega), hR.1.1, hn, iN_add]
            refine ⟨inA (by omega) (by omega), fun c => absurd ((iN_le (by omega) (by omega) (by omega) (by omega)).mp c) (by omega), fun _ => ⟨fun cz => ?_, fun cz => ?_⟩⟩
            · refine fin w ⟨fun q => ?_, fun q => ?_⟩
              · rw [q] at cz; exact absurd cz (by decide +kernel)
              · exact g2.mpr ⟨q.1, fun s' _ => (cov_iff hV n8 hT).mp q.2 s' (by omega)⟩
            · rw [b2i_z, Bool.not_eq_false] at cz
              have col : ∀ (e t : Nat) (u : Bool), t + e = n → (u = true ↔ w = true ∧ ∀ t', t' < t → covP C k s t') → G l E d m_Mod_askOf 59 [(0, (.ref 24, 41)), (1, (.int (iN b), 0)), (2, (.int (iN (k : Int)), 0)), (3, (.int (iN (b2i u)), 0)), (4, (.int (iN (s : Int)), 0)), (5, (.int (iN (t : Int)), 0))] [] (zA M Z A) K := by
                intro e
                induction e with
                | zero =>
                  intro t u h1 h2
                  refine b_Mod_askOf_59 (by omega) ?_
                  simp only [zA_1]
                  rw [clA (z := 0) (j := 0 + 0) (by omega) (by omega), hR.1.1, hn, iN_add]
                  refine ⟨inA (by omega) (by omega), fun _ => ihg (s + 1) u (by omega) ?_, fun c => absurd ((iN_le (by omega) (by omega) (by omega) (by omega)).mpr (by omega)) c⟩
                  rw [h2, g2]
                  constructor
                  · rintro ⟨⟨x1, x2⟩, x3⟩
                    refine ⟨x1, fun s' hs' t' ht' => ?_⟩
                    by_cases e : s' = s
                    · subst e; exact x3 t' (by omega)
                    · exact x2 s' (by omega) t' ht'
                  · rintro ⟨x1, x2⟩
                    exact ⟨⟨x1, fun s' hs' => x2 s' (by omega)⟩, fun t' ht' => x2 s (by omega) t' (by omega)⟩
                | succ e ihe =>
                  intro t u h1 h2
                  have nx : ∀ u' : Bool, (u' = true ↔ u = true ∧ covP C k s t) → G l E d m_Mod_askOf 59 [(0, (.ref 24, 41)), (1, (.int (iN b), 0)), (2, (.int (iN (k : Int)), 0)), (3, (.int (iN (b2i u')), 0)), (4, (.int (iN (s : Int)), 0)), (5, (.int (iN ((t : Int) + 1)), 0))] [] (zA M Z A) K := by
                    intro u' hu
                    refine ihe (t + 1) u' (by omega) ?_
                    rw [hu, h2]
                    constructor
                    · rintro ⟨⟨x1, x2⟩, x3⟩
                      refine ⟨x1, fun t' ht' => ?_⟩
                      by_cases e : t' = t
                      · subst e; exact x3
                      · exact x2 t' (by omega)
                    · rintro ⟨x1, x2⟩
                      exact ⟨⟨x1, fun t' ht' => x2 t' (by omega)⟩, x2 t (by omega)⟩
                  have yes : u = true → covP C k s t → G l E d m_Mod_askOf 59 [(0, (.ref 24, 41)), (1, (.int (iN b), 0)), (2, (.int (iN (k : Int)), 0)), (3, (.int (iN 1), 0)), (4, (.int (iN (s : Int)), 0)), (5, (.int (iN ((t : Int) + 1)), 0))] [] (zA M Z A) K := fun hu hc => nx true ⟨fun _ => ⟨hu, hc⟩, fun _ => rfl⟩
                  have no : ¬ (u = true ∧ covP C k s t) → G l E d m_Mod_askOf 59 [(0, (.ref 24, 41)), (1, (.int (iN b), 0)), (2, (.int (iN (k : Int)), 0)), (3, (.int (iN 0), 0)), (4, (.int (iN (s : Int)), 0)), (5, (.int (iN ((t : Int) + 1)), 0))] [] (zA M Z A) K := fun hu => nx false ⟨fun q => (by cases q), fun q => absurd q hu⟩
                  refine b_Mod_askOf_59 (by omega) ?_
                  simp only [zA_1, iN_add]
                  rw [clA (z := 0) (j := 0 + 0) (by omega) (by omega), hR.1.1, hn, b2i_z, iN_eq (a := (s : Int)) (by omega) (by omega) (by omega) (by omega)]
                  refine ⟨inA (by omega) (by omega), fun c => absurd ((iN_le (by omega) (by omega) (by omega) (by omega)).mp c) (by omega), fun _ => ⟨fun c2 => no (by rw [c2]; simp), fun c2 => ?_⟩⟩
                  rw [Bool.not_eq_false] at c2
                  refine ⟨fun c3 => yes c2 (Or.inl (by omega)), fun c3 => r_isIn (by omega) k2 (by omega) ?_⟩
                  rw [toI_int, b2i_z]
                  refine ⟨fun c4 => yes c2 (Or.inr (Or.inl (by simpa using c4))), fun c4 => r_isIn (by omega) k2 (by omega) ?_⟩
                  rw [toI_int, b2i_z]
                  refine ⟨fun c5 => yes c2 (Or.inr (Or.inr (Or.inl (by simpa using c5)))), fun c5 => c_owes (x := (s : Int)) (s := t) (by omega) hB hV hR (by omega) (by omega) (by omega) ?_⟩
                  have r := owedC_rng hV (s : Int) (b := t) (by omega)
                  rw [toI_int, iN_eq0 (a := owedC C s t) (by omega) (by omega)]
                  refine ⟨fun c6 => no (fun q => ?_), fun c6 => yes c2 (Or.inr (Or.inr (Or.inr c6)))⟩
                  rcases q.2 with q | q | q | q
                  · omega
                  · rw [c4] at q; cases q
                  · rw [c5] at q; cases q
                  · exact c6 q
              exact col n 0 w (by omega) ⟨fun q => ⟨q, fun t' ht' => by omega⟩, fun q => q.1⟩
        exact row n 0 v (by omega) ⟨fun q => ⟨q, fun s' hs' => by omega⟩, fun q => q.1⟩
      rw [iN_eq (a := b) (by omega) (by omega) (by omega) (by omega)]
      refine ⟨fun c => scan true ⟨fun _ => Or.inl c, fun _ => rfl⟩, fun c => r_bits (by omega) k2 ?_⟩
      obtain ⟨c', rfl⟩ : ∃ c' : Nat, b = c' := ⟨b.toNat, (by omega)⟩
      have pc1 := popc_lo c'
      have pc2 := popc_hi c'
      refine r_bits (by omega) (by omega) ?_
      rw [toI_int, toI_int, iN_le (by omega) (by omega) (by omega) (by omega)]
      refine ⟨fun c2 => scan false ⟨fun q => (by cases q), fun q => ?_⟩, fun c2 => scan true ⟨fun _ => Or.inr ?_, fun _ => rfl⟩⟩
      · rw [show ((c' : Int)).toNat = c' from rfl] at q; omega
      · rw [show ((c' : Int)).toNat = c' from rfl]; omega
  exact b_Mod_askOf_0 (by omega) (key (2 ^ n) 0 (-1) (by omega) (Or.inl ⟨rfl, fun y hy => by omega⟩))
theorem r_askSet {l : Launch} {E : EnvT} {d : Nat} {K : AV → Mem → Prop} {M : Mem} {C Z T : Ch} {A : Nat → Int} {n : Nat} (hd : 8 ≤ d) (hB : Z 0 21 = 0) (hV : VB C) (hR : RR C A 0) (hn : C 0 8 = n) (hT : LK T C n) (h : K (.int (iN (laF (T 3) n (2 ^ n - 1) (2 ^ n - 1) : Nat)), 0) (zA M (sZ Z 0) A)) : CT l E d m_Mod_askSet [(.ref 24, 41)] (zA M Z A) K := by
  refine CT.of pn_Mod (Nat.le_of_ble_eq_true rfl) ?_
  exact b_Mod_askSet_0 (by omega) (r_askOf (by omega) hB hV hR hn hT (r_gives (by omega) h))
theorem r_ask {l : Launch} {E : EnvT} {d : Nat} {K : AV → Mem → Prop} {M : Mem} {C Z T : Ch} {A : Nat → Int} {n : Nat} (hd : 8 ≤ d) (hB : Z 0 21 = 0) (hV : VB C) (hR : RR C A 0) (hn : C 0 8 = n) (hT : LK T C n) (h : K (.int (iN (popc (laF (T 3) n (2 ^ n - 1) (2 ^ n - 1)))), 0) (zA M (sZ Z 0) A)) : CT l E d m_Mod_ask [(.ref 24, 41)] (zA M Z A) K := by
  refine CT.of pn_Mod (Nat.le_of_ble_eq_true rfl) ?_
  have hnn := hV.n
  exact b_Mod_ask_0 (by omega) (r_askOf (by omega) hB hV hR hn hT (r_bits (by omega) (laF_lt _ _ (by omega)) (r_gives (by omega) h)))
