theorem c_singerRow {l : Launch} {E : EnvT} {d : Nat} {K : AV → Mem → Prop} {M : Mem} {s : Int} (hd : 1 ≤ d) (h : K (.int (iN (6 + 8 * s)), 0) M) : CT l E d m_Mod_singerRow [(.int (iN s), 0)] M K := by
  refine CT.of pn_Mod (Nat.le_of_ble_eq_true rfl) ?_
  refine b_Mod_singerRow_0 hd ?_
  rw [iN_mul, iN_add]
  exact h
theorem clA {z : Int} {j : Nat} (h : z = j) (hj : j < 3612) : (iN z).toNatClampNeg = j := by rw [h]; exact iN_clN (by omega)
theorem inA {z : Int} (h0 : 0 ≤ z) (h : z < 3612) : vp_in (iN z) 3612 := iN_in h0 (by omega) (by omega)
theorem c_of {l : Launch} {E : EnvT} {d : Nat} {K : AV → Mem → Prop} {M : Mem} {Z : Ch} {A : Nat → Int} {B s w : Nat} (hd : 2 ≤ d) (hB : Z 0 21 = B) (B3 : B ≤ 3010) (hs : s < 8) (hw : w < 8) (h : K (.int (iN (A (B + 6 + 8 * s + w))), 0) (zA M Z A)) : CT l E d m_Mod_of [(.ref 24, 41), (.int (iN s), 0), (.int (iN w), 0)] (zA M Z A) K := by
  refine CT.of pn_Mod (Nat.le_of_ble_eq_true rfl) ?_
  refine b_Mod_of_0 (by omega) (c_singerRow (by omega) ?_)
  rw [toI_int, zA_0, hB, iN_add, iN_add, zA_1, clA (j := B + 6 + 8 * s + w) (by omega) (by omega)]
  exact ⟨inA (by omega) (by omega), h⟩
theorem c_holderOf {l : Launch} {E : EnvT} {d : Nat} {K : AV → Mem → Prop} {M : Mem} {Z : Ch} {A : Nat → Int} {B s k : Nat} (hd : 1 ≤ d) (hB : Z 0 21 = B) (B3 : B ≤ 3010) (hs : s < 8) (hk : k < 6) (h : K (.int (iN (A (B + 118 + (6 * s + k)))), 0) (zA M Z A)) : CT l E d m_Mod_holderOf [(.ref 24, 41), (.int (iN s), 0), (.int (iN k), 0)] (zA M Z A) K := by
  refine CT.of pn_Mod (Nat.le_of_ble_eq_true rfl) ?_
  refine b_Mod_holderOf_0 (by omega) ?_
  rw [zA_0, hB, iN_add, iN_mul, iN_add, iN_add, zA_1, clA (j := B + 118 + (6 * s + k)) (by omega) (by omega)]
  exact ⟨inA (by omega) (by omega), h⟩
theorem c_debtAt {l : Launch} {E : EnvT} {d : Nat} {K : AV → Mem → Prop} {M : Mem} {Z : Ch} {A : Nat → Int} {B s k : Nat} (hd : 1 ≤ d) (hB : Z 0 21 = B) (B3 : B ≤ 3010) (hs : s < 8) (hk : k < 6) (h : K (.int (iN (A (B + 166 + (6 * s + k)))), 0) (zA M Z A)) : CT l E d m_Mod_debtAt [(.ref 24, 41), (.int (iN s), 0), (.int (iN k), 0)] (zA M Z A) K := by
  refine CT.of pn_Mod (Nat.le_of_ble_eq_true rfl) ?_
  refine b_Mod_debtAt_0 (by omega) ?_
  rw [zA_0, hB, iN_add, iN_mul, iN_add, iN_add, zA_1, clA (j := B + 166 + (6 * s + k)) (by omega) (by omega)]
  exact ⟨inA (by omega) (by omega), h⟩
def stA (A : Nat → Int) (B i : Nat) (who v : Int) : Nat → Int := updP (updP A (B + 118 + i) (if v = 0 then -1 else who)) (B + 166 + i) v
theorem c_stands {l : Launch} {E : EnvT} {d : Nat} {K : AV → Mem → Prop} {M : Mem} {Z : Ch} {A : Nat → Int} {B s k : Nat} {who v : Int} (hd : 1 ≤ d) (hB : Z 0 21 = B) (B3 : B ≤ 3010) (hs : s < 8) (hk : k < 6) (w1 : -1 ≤ who) (w2 : who < 8) (v1 : 0 ≤ v) (v2 : v ≤ 9999) (h : K (.null, 0) (zA M Z (stA A B (6 * s + k) who v))) : CT l E d m_Mod_stands [(.ref 24, 41), (.int (iN s), 0), (.int (iN k), 0), (.int (iN who), 0), (.int (iN v), 0)] (zA M Z A) K := by
  refine CT.of pn_Mod (Nat.le_of_ble_eq_true rfl) ?_
  refine b_Mod_stands_0 (by omega) ?_
  unfold stA at h
  rw [iN_eq0 (by omega) (by omega)]
  simp only [zA_0, zA_u, hB, iN_add, iN_mul, iN_m1I]
  rw [clA (z := (B : Int) + 118 + 6 * s + k) (j := B + 118 + (6 * s + k)) (by omega) (by omega), clA (z := (B : Int) + 166 + 6 * s + k) (j := B + 166 + (6 * s + k)) (by omega) (by omega), iN_small (z := who) (by omega) (by omega), iN_small (z := v) (by omega) (by omega)]
  refine ⟨fun c => ⟨inA (by omega) (by omega), inA (by omega) (by omega), ?_⟩, fun c => ⟨inA (by omega) (by omega), inA (by omega) (by omega), ?_⟩⟩
  · rw [if_neg c] at h; exact h
  · rw [if_pos c] at h; exact h
theorem noteOf_rng {C : Ch} (hV : VB C) (x : Int) {b : Nat} (hb : b < 8) : noteOfC C x b = -1 ∨ ∃ k : Nat, noteOfC C x b = k ∧ (k : Int) < C 4 b ∧ k < 6 ∧ C 6 (6 * b + k) = x := by
  have le := hV.le b hb
  unfold noteOfC fnd
  rcases fndF_ge (fun k => C 6 (6 * b + k) == x) (C 4 b).toNat 0 with e | ⟨j, e, h1, h2, h3, h4⟩
  · exact Or.inl e
  · exact Or.inr ⟨j, e, (by omega), (by omega), by simpa using h3⟩
theorem c_noteOf {l : Launch} {E : EnvT} {d : Nat} {K : AV → Mem → Prop} {M : Mem} {C Z : Ch} {A : Nat → Int} {B s : Nat} {x : Int} (hd : 3 ≤ d) (hB : Z 0 21 = B) (B3 : B ≤ 3010) (hV : VB C) (hR : RR C A B) (hs : (s : Int) < C 0 8) (x1 : -1 ≤ x) (x2 : x < 8) (h : K (.int (iN (noteOfC C x s)), 0) (zA M Z A)) : CT l E d m_Mod_noteOf [(.ref 24, 41), (.int (iN s), 0), (.int (iN x), 0)] (zA M Z A) K := by
  refine CT.of pn_Mod (Nat.le_of_ble_eq_true rfl) ?_
  have hn := hV.n
  have le := hV.le s (by omega)
  obtain ⟨n, hl⟩ : ∃ n : Nat, C 4 s = n := ⟨(C 4 s).toNat, (by omega)⟩
  unfold noteOfC fnd at h
  rw [hl, show ((n : Int)).toNat = n from rfl] at h
  have key : ∀ (m k : Nat), k + m = n → fndF (fun k => C 6 (6 * s + k) == x) 0 n = fndF (fun k => C 6 (6 * s + k) == x) k m → G l E d m_Mod_noteOf 2 [(0, (.ref 24, 41)), (1, (.int (iN s), 0)), (2, (.int (iN x), 0)), (3, (.int (iN k), 0))] [] (zA M Z A) K := by
    intro m
    induction m with
    | zero =>
      intro k hk he
      refine b_Mod_noteOf_2 (by omega) (c_of (w := 1) (by omega) hB B3 (by omega) (by omega) ?_)
      rw [(hR.2.1 s hs).2.1, hl, toI_int]
      refine ⟨fun _ => ?_, fun c => absurd ((iN_le (by omega) (by omega) (by omega) (by omega)).mpr (by omega)) c⟩
      rw [he] at h
      exact h
    | succ m ih =>
      intro k hk he
      have hh := hR.2.2.2.1 (6 * s + k) (by omega)
      have ho := hV.ho (6 * s + k) (by omega)
      have he : _ = (if (C 6 (6 * s + k) == x) = true then (k : Int) else fndF (fun k => C 6 (6 * s + k) == x) (k + 1) m) := he
      refine b_Mod_noteOf_2 (by omega) (c_of (w := 1) (by omega) hB B3 (by omega) (by omega) ?_)
      rw [(hR.2.1 s hs).2.1, hl, toI_int]
      refine ⟨fun c => absurd ((iN_le (by omega) (by omega) (by omega) (by omega)).mp c) (by omega), fun _ => c_holderOf (by omega) hB B3 (by omega) (by omega) ?_⟩
      rw [hh.1, toI_int, iN_eq (by omega) (by omega) (by omega) (by omega), iN_add]
      refine ⟨fun c => ih (k + 1) (by omega) ?_, fun c => ?_⟩
      · rw [if_neg (by simp [c])] at he; exact he
      · rw [if_pos (by simp [c])] at he; rw [he] at h; exact h
  exact b_Mod_noteOf_0 (by omega) (key n 0 (by omega) rfl)
theorem c_waiterOf {l : Launch} {E : EnvT} {d : Nat} {K : AV → Mem → Prop} {M : Mem} {C Z : Ch} {A : Nat → Int} {B : Nat} {x y : Int} (hd : 1 ≤ d) (hB : Z 0 21 = B) (B3 : B ≤ 3010) (hV : VB C) (hR : RR C A B) (x1 : -1 ≤ x) (x2 : x < 8) (y1 : -1 ≤ y) (y2 : y < 8) (h : K (.int (iN (placeOfC C x y)), 0) (zA M Z A)) : CT l E d m_Mod_waiterOf [(.ref 24, 41), (.int (iN x), 0), (.int (iN y), 0)] (zA M Z A) K := by
  refine CT.of pn_Mod (Nat.le_of_ble_eq_true rfl) ?_
  have hw := hV.w
  obtain ⟨n, hl⟩ : ∃ n : Nat, C 8 3 = n := ⟨(C 8 3).toNat, (by omega)⟩
  unfold placeOfC fnd at h
  rw [hl, show ((n : Int)).toNat = n from rfl] at h
  have f5 := hR.1.2.2.2.2
  have key : ∀ (m k : Nat), k + m = n → fndF (fun k => C 9 k == x && C 10 k == y) 0 n = fndF (fun k => C 9 k == x && C 10 k == y) k m → G l E d m_Mod_waiterOf 2 [(0, (.ref 24, 41)), (1, (.int (iN x), 0)), (2, (.int (iN y), 0)), (3, (.int (iN k), 0))] [] (zA M Z A) K := by
    intro m
    induction m with
    | zero =>
      intro k hk he
      refine b_Mod_waiterOf_2 (by omega) ?_
      rw [zA_0, hB, iN_add, zA_1, clA (j := B + 5) (by omega) (by omega), f5, hl]
      refine ⟨inA (by omega) (by omega), fun _ => ?_, fun c => absurd ((iN_le (by omega) (by omega) (by omega) (by omega)).mpr (by omega)) c⟩
      rw [he] at h
      exact h
    | succ m ih =>
      intro k hk he
      have hh := hR.2.2.2.2 k (by omega)
      have wa := hV.wa k (by omega)
      have wb := hV.wb k (by omega)
      have he : _ = (if (C 9 k == x && C 10 k == y) = true then (k : Int) else fndF (fun k => C 9 k == x && C 10 k == y) (k + 1) m) := he
      refine b_Mod_waiterOf_2 (by omega) ?_
      rw [zA_0, hB, iN_add, zA_1, clA (j := B + 5) (by omega) (by omega), f5, hl]
      refine ⟨inA (by omega) (by omega), fun c => absurd ((iN_le (by omega) (by omega) (by omega) (by omega)).mp c) (by omega), fun _ => ?_⟩
      simp only [iN_add, iN_mul]
      rw [clA (z := (B : Int) + 214 + 3 * k) (j := B + 214 + 3 * k) (by omega) (by omega), hh.1, clA (z := (B : Int) + 214 + 3 * k + 1) (j := B + 214 + 3 * k + 1) (by omega) (by omega), hh.2.1, iN_eq (by omega) (by omega) (by omega) (by omega), iN_eq (by omega) (by omega) (by omega) (by omega)]
      refine ⟨inA (by omega) (by omega), fun c => ih (k + 1) (by omega) ?_, fun c => ⟨inA (by omega) (by omega), fun c2 => ih (k + 1) (by omega) ?_, fun c2 => ?_⟩⟩
      · rw [if_neg (by simp [c])] at he; exact he
      · rw [if_neg (by simp [c2])] at he; exact he
      · rw [if_pos (by simp [c, c2])] at he; rw [he] at h; exact h
  exact b_Mod_waiterOf_0 (by omega) (key n 0 (by omega) rfl)
theorem c_noted {l : Launch} {E : EnvT} {d : Nat} {K : AV → Mem → Prop} {M : Mem} {C Z : Ch} {A : Nat → Int} {B s : Nat} {x : Int} (hd : 4 ≤ d) (hB : Z 0 21 = B) (B3 : B ≤ 3010) (hV : VB C) (hR : RR C A B) (hs : (s : Int) < C 0 8) (x1 : -1 ≤ x) (x2 : x < 8) (h : K (.int (iN (debtC C x s)), 0) (zA M Z A)) : CT l E d m_Mod_noted [(.ref 24, 41), (.int (iN x), 0), (.int (iN s), 0)] (zA M Z A) K := by
  refine CT.of pn_Mod (Nat.le_of_ble_eq_true rfl) ?_
  have hn := hV.n
  refine b_Mod_noted_0 (by omega) (c_noteOf (by omega) hB B3 hV hR hs x1 x2 ?_)
  unfold debtC at h
  rw [slotOf_note] at h
  rw [toI_int]
  rcases noteOf_rng hV x (b := s) (by omega) with e | ⟨k, e, k1, k2, k3⟩
  · rw [e] at h ⊢
    refine ⟨fun c => absurd rfl c, fun _ => ?_⟩
    exact h
  · rw [e] at h ⊢
    rw [iN_eq (by omega) (by omega) (by omega) (by omega)]
    rw [if_neg (by omega), if_neg (by omega), show (6 * (s : Int) + k).toNat = 6 * s + k by omega] at h
    refine ⟨fun _ => c_debtAt (by omega) hB B3 (by omega) (by omega) ?_, fun c => absurd c (by omega)⟩
    rw [(hR.2.2.2.1 (6 * s + k) (by omega)).2]
    exact h
theorem c_owes {l : Launch} {E : EnvT} {d : Nat} {K : AV → Mem → Prop} {M : Mem} {C Z : Ch} {A : Nat → Int} {s : Nat} {x : Int} (hd : 5 ≤ d) (hB : Z 0 21 = 0) (hV : VB C) (hR : RR C A 0) (hs : (s : Int) < C 0 8) (x1 : -1 ≤ x) (x2 : x < 8) (h : K (.int (iN (owedC C x s)), 0) (zA M Z A)) : CT l E d m_Mod_owes [(.ref 24, 41), (.int (iN x), 0), (.int (iN s), 0)] (zA M Z A) K := by
  refine CT.of pn_Mod (Nat.le_of_ble_eq_true rfl) ?_
  have hn := hV.n
  refine b_Mod_owes_0 (by omega) (c_waiterOf (B := 0) (by omega) hB (by omega) hV hR x1 x2 (by omega) (by omega) (c_noted (B := 0) (by omega) hB (by omega) hV hR hs x1 x2 ?_))
  unfold owedC at h
  rw [toI_int, toI_int]
  rcases placeOf_rng hV x s with e | ⟨k, e, k1, k2, k3, k4⟩
  · rw [e] at h ⊢
    rw [if_pos rfl] at h
    simp only [iN_add]
    exact ⟨fun c => absurd trivial c, fun _ => h⟩
  · rw [e] at h ⊢
    have hw := hV.w
    rw [if_neg (by omega), show ((k : Int)).toNat = k from rfl] at h
    have q := (hR.2.2.2.2 k (by omega)).2.2
    rw [iN_eq (by omega) (by omega) (by omega) (by omega), iN_mul, iN_add, iN_add, zA_1, clA (z := (214 : Int) + 3 * k + 2) (j := 0 + 214 + 3 * k + 2) (by omega) (by omega), q, iN_add]
    exact ⟨fun _ => ⟨inA (by omega) (by omega), h⟩, fun c => absurd c (by omega)⟩
/-- taking one that waits away, there -/
theorem c_leaves {l : Launch} {E : EnvT} {d : Nat} {K : AV → Mem → Prop} {M : Mem} {C Z : Ch} {A : Nat → Int} {B k : Nat} (hd : 1 ≤ d) (hB : Z 0 21 = B) (B3 : B ≤ 3010) (hV : VB C) (hR : RR C A B) (hk : (k : Int) < C 8 3) (h : ∀ A', RR (leaveC C k) A' B → FrA B A A' → K (.int (iN (C 11 k)), 0) (zA M Z A')) : CT l E d m_Mod_leaves [(.ref 24, 41), (.int (iN k), 0)] (zA M Z A) K := by
  refine CT.of pn_Mod (Nat.le_of_ble_eq_true rfl) ?_
  have hw := hV.w
  obtain ⟨n, hl⟩ : ∃ n : Nat, C 8 3 = n := ⟨(C 8 3).toNat, (by omega)⟩
  have f5 := hR.1.2.2.2.2
  have hh := hR.2.2.2.2 k (by omega)
  have key : ∀ (m j : Nat) (A' : Nat → Int), j + m = 3 * (n - 1) → 3 * k ≤ j → (∀ i, i ≠ B + 5 → ¬ (B + 214 + 3 * k ≤ i ∧ i < B + 214 + j) → A' i = A i) → (∀ i, 3 * k ≤ i → i < j → A' (B + 214 + i) = A (B + 214 + i + 3)) → A' (B + 5) = (n : Int) - 1 → G l E d m_Mod_leaves 39 [(0, (.ref 24, 41)), (2, (.int (iN (C 11 k)), 0)), (3, (.int (iN j), 0))] [] (zA M Z A') K := by
    intro m
    induction m with
    | zero =>
      intro j A' hj hkj e1 e2 e3
      have hj : j = 3 * (n - 1) := (by omega)
      refine b_Mod_leaves_39 (by omega) ?_
      rw [zA_0, hB, iN_add, zA_1, clA (j := B + 5) (by omega) (by omega), e3, iN_mul]
      refine ⟨inA (by omega) (by omega), fun _ => h A' ?_ ?_, fun c => absurd ((iN_le (by omega) (by omega) (by omega) (by omega)).mpr (by omega)) c⟩
      · refine RR_w hV hR (fun c hc => leaveC_c hc) (fun i i1 i2 i3 => e1 i i3 (by omega)) (by rw [leaveC_8, e3, hl]) (fun i hi => ?_)
        rw [leaveC_8] at hi
        rw [leaveC_at C k (Or.inl rfl) i hi, leaveC_at C k (Or.inr (Or.inl rfl)) i hi, leaveC_at C k (Or.inr (Or.inr rfl)) i hi]
        by_cases c : k ≤ i
        · rw [if_pos c]
          have q := hR.2.2.2.2 (i + 1) (by omega)
          rw [show B + 214 + 3 * i = B + 214 + (3 * i) from rfl, e2 (3 * i) (by omega) (by omega), show B + 214 + 3 * i + 1 = B + 214 + (3 * i + 1) by omega, e2 (3 * i + 1) (by omega) (by omega), show B + 214 + 3 * i + 2 = B + 214 + (3 * i + 2) by omega, e2 (3 * i + 2) (by omega) (by omega)]
          rw [show B + 214 + 3 * (i + 1) = B + 214 + 3 * i + 3 by omega] at q
          exact ⟨q.1, q.2.1, q.2.2⟩
        · rw [if_neg c, e1 _ (by omega) (by omega), e1 _ (by omega) (by omega), e1 _ (by omega) (by omega)]
          exact hR.2.2.2.2 i (by omega)
      · intro i hi
        exact e1 i (by omega) (by omega)
    | succ m ih =>
      intro j A' hj hkj e1 e2 e3
      have vb : -2147483648 ≤ A (B + 214 + j + 3) ∧ A (B + 214 + j + 3) < 2147483648 := by
        have q := hR.2.2.2.2 (j / 3 + 1) (by omega)
        have b1 := hV.wa (j / 3 + 1) (by omega)
        have b2 := hV.wb (j / 3 + 1) (by omega)
        have b3 := hV.wm (j / 3 + 1) (by omega)
        have : j % 3 = 0 ∨ j % 3 = 1 ∨ j % 3 = 2 := (by omega)
        rcases this with c | c | c
        · rw [show B + 214 + j + 3 = B + 214 + 3 * (j / 3 + 1) by omega, q.1]; omega
        · rw [show B + 214 + j + 3 = B + 214 + 3 * (j / 3 + 1) + 1 by omega, q.2.1]; omega
        · rw [show B + 214 + j + 3 = B + 214 + 3 * (j / 3 + 1) + 2 by omega, q.2.2]; omega
      refine b_Mod_leaves_39 (by omega) ?_
      rw [zA_0, hB, iN_add, zA_1, clA (j := B + 5) (by omega) (by omega), e3, iN_mul]
      refine ⟨inA (by omega) (by omega), fun c => absurd ((iN_le (by omega) (by omega) (by omega) (by omega)).mp c) (by omega), fun _ => ?_⟩
      simp only [iN_add]
      rw [clA (z := (B : Int) + 214 + j) (j := B + 214 + j) (by omega) (by omega), clA (z := (B : Int) + 214 + j + 3) (j := B + 214 + j + 3) (by omega) (by omega), e1 (B + 214 + j + 3) (by omega) (by omega), iN_small vb.1 vb.2, zA_u]
      refine ⟨inA (by omega) (by omega), inA (by omega) (by omega), ih (j + 1) _ (by omega) (by omega) (fun i i1 i2 => ?_) (fun i i1 i2 => ?_) ?_⟩
      · rw [updP_ne _ _ (by omega)]; exact e1 i i1 (by omega)
      · rw [updP_at]
        by_cases c : i = j
        · rw [if_pos (by omega), c]
        · rw [if_neg (by omega)]; exact e2 i i1 (by omega)
      · rw [updP_ne _ _ (by omega)]; exact e3
  refine b_Mod_leaves_0 (by omega) ?_
  simp only [zA_0, zA_1, hB, iN_add, iN_mul]
  rw [clA (z := (B : Int) + 214 + 3 * k + 2) (j := B + 214 + 3 * k + 2) (by omega) (by omega), hh.2.2, clA (z := (B : Int) + 5) (j := B + 5) (by omega) (by omega), f5, hl, iN_sub, iN_small (by omega) (by omega), zA_u]
  refine ⟨inA (by omega) (by omega), inA (by omega) (by omega), inA (by omega) (by omega), ?_⟩
  have k0 := key (3 * (n - 1) - 3 * k) (3 * k) (updP A (B + 5) ((n : Int) - 1)) (by omega) (by omega) (fun i i1 i2 => updP_ne _ _ i1) (fun i i1 i2 => by omega) (updP_same _ _ _)
  exact k0
