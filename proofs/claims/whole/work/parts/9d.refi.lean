/-- the next of a path at j, out of Y's cell 10 -/
def okR (C : Ch) (Q : Nat → Int) (j t : Nat) : Prop := (j = 0 ∨ 0 < debtC C (Q (j - 1)) t) ∧ ∀ k, k < j → Q k ≠ t
theorem in8 {z : Int} (h0 : 0 ≤ z) (h : z < 8) : vp_in (iN z) 8 := iN_in h0 (by omega) (by omega)
theorem r_nextAt {l : Launch} {E : EnvT} {d : Nat} {K : AV → Mem → Prop} {M : Mem} {C Y : Ch} {A : Nat → Int} {n j : Nat} {p : Int} (hd : 5 ≤ d) (hB : Y 0 21 = 0) (hV : VB C) (hR : RR C A 0) (hn : C 0 8 = n) (hj : j < 8) (hp : Y 10 j = p) (p1 : -1 ≤ p) (p2 : p < 8) (hQ : ∀ k, k < j → 0 ≤ Y 10 k ∧ Y 10 k < n) (h1 : (∀ t : Nat, p < t → t < n → ¬ okR C (Y 10) j t) → K (.int (iN (-1)), 0) (zA M Y A)) (h2 : ∀ t : Nat, p < t → t < n → okR C (Y 10) j t → (∀ t' : Nat, p < t' → t' < t → ¬ okR C (Y 10) j t') → K (.int (iN (t : Int)), 0) (zA M Y A)) : CT l E d m_Mod_nextAt [(.ref 24, 41), (.int (iN (j : Int)), 0)] (zA M Y A) K := by
  refine CT.of pn_Mod (Nat.le_of_ble_eq_true rfl) ?_
  have hnn := hV.n
  have n8 : n ≤ 8 := (by omega)
  have c10 := zA_c M Y A (show 10 ≠ 1 by decide)
  have key : ∀ (f t : Nat), (t + f = n ∨ (f = 0 ∧ n ≤ t)) → p < t → t ≤ 8 → (∀ t' : Nat, p < t' → t' < t → ¬ okR C (Y 10) j t') → G l E d m_Mod_nextAt 9 [(0, (.ref 24, 41)), (1, (.int (iN (j : Int)), 0)), (2, (.int (iN (t : Int)), 0))] [] (zA M Y A) K := by
    intro f
    induction f with
    | zero =>
      intro t e1 e2 e3 e4
      refine b_Mod_nextAt_9 (by omega) ?_
      simp only [zA_1]
      rw [clA (z := 0) (j := 0 + 0) (by omega) (by omega), hR.1.1, hn]
      exact ⟨inA (by omega) (by omega), fun _ => h1 (fun t' q1 q2 => e4 t' q1 (by omega)), fun c => absurd ((iN_le (by omega) (by omega) (by omega) (by omega)).mpr (by omega)) c⟩
    | succ f ih =>
      intro t e1 e2 e3 e4
      have e1 : t + (f + 1) = n := (by omega)
      have scan : ∀ (g k : Nat) (w : Bool), k + g = j → (w = true ↔ (j = 0 ∨ 0 < debtC C (Y 10 (j - 1)) t) ∧ ∀ k', k' < k → Y 10 k' ≠ t) → G l E d m_Mod_nextAt 48 [(0, (.ref 24, 41)), (1, (.int (iN (j : Int)), 0)), (2, (.int (iN (t : Int)), 0)), (3, (.int (iN (b2i w)), 0)), (4, (.int (iN (k : Int)), 0))] [] (zA M Y A) K := by
        intro g
        induction g with
        | zero =>
          intro k w g1 g2
          have : k = j := (by omega)
          subst this
          refine b_Mod_nextAt_48 (by omega) ⟨fun _ => ?_, fun c => absurd ((iN_le (by omega) (by omega) (by omega) (by omega)).mpr (by omega)) c⟩
          rw [b2i_z, iN_add]
          refine ⟨fun c => ih (t + 1) (by omega) (by omega) (by omega) (fun t' q1 q2 => ?_), fun c => h2 t e2 (by omega) (g2.mp (by simpa using c)) e4⟩
          by_cases e : t' = t
          · subst e
            intro q
            rw [c] at g2
            cases g2.mpr q
          · exact e4 t' q1 (by omega)
        | succ g ihg =>
          intro k w g1 g2
          have qk := hQ k (by omega)
          have nx : ∀ w' : Bool, (w' = true ↔ w = true ∧ Y 10 k ≠ t) → G l E d m_Mod_nextAt 48 [(0, (.ref 24, 41)), (1, (.int (iN (j : Int)), 0)), (2, (.int (iN (t : Int)), 0)), (3, (.int (iN (b2i w')), 0)), (4, (.int (iN ((k : Int) + 1)), 0))] [] (zA M Y A) K := by
            intro w' hw
            refine ihg (k + 1) w' (by omega) ?_
            rw [hw, g2]
            constructor
            · rintro ⟨⟨x1, x2⟩, x3⟩
              refine ⟨x1, fun k' hk' => ?_⟩
              by_cases e : k' = k
              · subst e; exact x3
              · exact x2 k' (by omega)
            · rintro ⟨x1, x2⟩
              exact ⟨⟨x1, fun k' hk' => x2 k' (by omega)⟩, x2 k (by omega)⟩
          refine b_Mod_nextAt_48 (by omega) ⟨fun c => absurd ((iN_le (by omega) (by omega) (by omega) (by omega)).mp c) (by omega), fun _ => ?_⟩
          rw [b2i_z, iN_add, c10, iN_clN (by omega), iN_eq (by omega) (by omega) (by omega) (by omega)]
          refine ⟨fun c => nx false ⟨fun q => (by cases q), fun q => ?_⟩, fun c => ⟨in8 (by omega) (by omega), fun c2 => nx false ⟨fun q => (by cases q), fun q => absurd c2 q.2⟩, fun c2 => nx true ⟨fun _ => ⟨by simpa using c, c2⟩, fun _ => rfl⟩⟩⟩
          rw [c] at q
          cases q.1
      refine b_Mod_nextAt_9 (by omega) ?_
      simp only [zA_1]
      rw [clA (z := 0) (j := 0 + 0) (by omega) (by omega), hR.1.1, hn, iN_eq0 (by omega) (by omega)]
      refine ⟨inA (by omega) (by omega), fun c => absurd ((iN_le (by omega) (by omega) (by omega) (by omega)).mp c) (by omega), fun _ => ⟨fun c => ?_, fun c => ?_⟩⟩
      · exact scan j 0 true (by omega) ⟨fun _ => ⟨Or.inl (by omega), fun k' hk' => by omega⟩, fun _ => rfl⟩
      · have q := hQ (j - 1) (by omega)
        rw [iN_sub, c10, show (j : Int) - 1 = ((j - 1 : Nat) : Int) by omega, iN_clN (by omega)]
        have dr := debtC_rng hV (Y 10 (j - 1)) (b := t) (by omega)
        refine ⟨in8 (by omega) (by omega), c_noted (B := 0) (by omega) hB (by omega) hV hR (by omega) (by omega) (by omega) ?_⟩
        rw [toI_int, iN_le0 (by omega) (by omega)]
        refine ⟨fun c2 => scan j 0 false (by omega) ⟨fun q => (by cases q), fun q => ?_⟩, fun c2 => scan j 0 true (by omega) ⟨fun _ => ⟨Or.inr (by omega), fun k' hk' => by omega⟩, fun _ => rfl⟩⟩
        rcases q.1 with q | q <;> omega
  refine b_Mod_nextAt_0 (by omega) ⟨in8 (by omega) (by omega), ?_⟩
  rw [c10, iN_clN (by omega), hp, iN_add]
  obtain ⟨t, ht⟩ : ∃ t : Nat, p + 1 = t := ⟨(p + 1).toNat, (by omega)⟩
  rw [ht]
  exact key (n - t) t (by omega) (by omega) (by omega) (fun t' q1 q2 => by omega)
def PW (n j used : Nat) (P : Nat → Int) : Prop := (∀ k, k < j → 0 ≤ P k ∧ P k < n) ∧ used < 256 ∧ ∀ t : Nat, t < 8 → (used.testBit t = true ↔ ∃ k, k < j ∧ P k = t)
theorem PW.add {n j used t : Nat} {P : Nat → Int} (h : PW n j used P) (ht : t < n) (n8 : n ≤ 8) : PW n (j + 1) (used ||| 2 ^ t) (updP P j t) := by
  obtain ⟨h1, h2, h3⟩ := h
  refine ⟨fun k hk => ?_, or_lt h2 (pow_lt (by omega)), fun x hx => ?_⟩
  · rw [updP_at]
    split
    · omega
    · exact h1 k (by omega)
  · rw [or_a h2 (by omega) hx, h3 x hx]
    constructor
    · rintro (e | ⟨k, k1, k2⟩)
      · exact ⟨j, (by omega), by rw [updP_same, e]⟩
      · exact ⟨k, (by omega), by rw [updP_ne _ _ (by omega)]; exact k2⟩
    · rintro ⟨k, k1, k2⟩
      rw [updP_at] at k2
      split at k2
      · exact Or.inl (by omega)
      · exact Or.inr ⟨k, (by omega), k2⟩
theorem PW.congr {n j used : Nat} {P Q : Nat → Int} (h : PW n j used P) (e : ∀ k, k < j → Q k = P k) : PW n j used Q := by
  obtain ⟨h1, h2, h3⟩ := h
  refine ⟨fun k hk => by rw [e k hk]; exact h1 k hk, h2, fun t ht => ?_⟩
  rw [h3 t ht]
  constructor
  · rintro ⟨k, k1, k2⟩; exact ⟨k, k1, by rw [e k k1]; exact k2⟩
  · rintro ⟨k, k1, k2⟩; exact ⟨k, k1, by rw [← e k k1]; exact k2⟩
theorem ok_iff {C T : Ch} {n j used t : Nat} {P : Nat → Int} (hV : VB C) (n8 : n ≤ 8) (hT : LK T C n) (hW : PW n j used P) (hj : 1 ≤ j) (ht : t < n) : (nAnd (T 2 (P (j - 1)).toNat).toNat used).testBit t = true ↔ okR C P j t := by
  have q := hW.1 (j - 1) (by omega)
  obtain ⟨a, ha⟩ : ∃ a : Nat, P (j - 1) = a := ⟨(P (j - 1)).toNat, (by omega)⟩
  have b255 : ∀ t, t < 8 → (255 : Nat).testBit t = true := by decide
  unfold okR nAnd
  rw [ha, show ((a : Int)).toNat = a from rfl, (hT.2.2 a (by omega)).2.1, show (((msk (lkN C a) n : Nat) : Int)).toNat = msk (lkN C a) n from rfl, Nat.testBit_and, Nat.testBit_xor, b255 t (by omega), msk_bit _ n n8, decide_eq_true ht, Bool.true_and]
  have hu := hW.2.2 t (by omega)
  unfold lkN
  have dn' : (Bool.xor true (used.testBit t)) = !used.testBit t := by cases used.testBit t <;> rfl
  rw [dn', Bool.and_eq_true, Bool.and_eq_true, decide_eq_true_eq, decide_eq_true_eq, Bool.not_eq_true', ← Bool.not_eq_true, hu]
  constructor
  · rintro ⟨⟨x1, x2⟩, x3⟩
    exact ⟨Or.inr x2, fun k hk e => x3 ⟨k, hk, e⟩⟩
  · rintro ⟨x1, x2⟩
    refine ⟨⟨fun e => x2 (j - 1) (by omega) (by rw [ha, e]), ?_⟩, fun ⟨k, hk, e⟩ => x2 k hk e⟩
    rcases x1 with x1 | x1
    · omega
    · exact x1
theorem okR_congr {C : Ch} {P Q : Nat → Int} {j t : Nat} (hj : 1 ≤ j) (e : ∀ k, k < j → Q k = P k) : okR C Q j t ↔ okR C P j t := by
  unfold okR
  rw [e (j - 1) (by omega)]
  constructor
  · rintro ⟨x1, x2⟩; exact ⟨x1, fun k hk => by rw [← e k hk]; exact x2 k hk⟩
  · rintro ⟨x1, x2⟩; exact ⟨x1, fun k hk => by rw [e k hk]; exact x2 k hk⟩
theorem clRow_skip {rc : Nat → (Nat → Int) → Bool × (Nat → Int)} {ok : Nat → Bool} {dep : Nat} : ∀ (f s m : Nat) (P : Nat → Int), (∀ x, s ≤ x → x < s + f → ok x = false) → clRow rc ok dep s (f + m) P = clRow rc ok dep (s + f) m P
  | 0, s, m, P, _ => by rw [Nat.zero_add]; rfl
  | f + 1, s, m, P, h => by
    rw [show f + 1 + m = (f + m) + 1 by omega]
    show (if ok s then _ else clRow rc ok dep (s + 1) (f + m) P) = _
    rw [h s (by omega) (by omega), if_neg (by simp), clRow_skip f (s + 1) m P (fun x h1 h2 => h x (by omega) (by omega)), show s + 1 + f = s + (f + 1) by omega]
