theorem and255 : ∀ n : Nat, n < 256 → (iN ((n : Int) - 128) &&& iN 255) = iN (((n : Int) - 128) % 256) := by decide +kernel
/-- the reference's text of L bytes -/
def TX (X : Nat → Int) (L : Nat) (Z : Ch) : Prop := Z 0 11 = L ∧ ∀ j, j < L → Z 7 j = X j
def bA (X : Nat → Int) (L p : Nat) : Int := if p < L then X p % 256 else -1
theorem bA_rng {X : Nat → Int} {L : Nat} (p : Nat) : -1 ≤ bA X L p ∧ bA X L p ≤ 255 := by
  unfold bA
  split <;> omega
theorem bA_i {X : Nat → Int} {L p : Nat} (hX : XBn X) (L9 : L ≤ 900) {v : Int} (v1 : 0 ≤ v) (v2 : v ≤ 127) : bA X L p = v ↔ p < L ∧ X p = v := by
  unfold bA
  split
  · have := hX p (by omega)
    omega
  · omega
theorem bA_in {X : Nat → Int} {L p : Nat} (hX : XBn X) (L9 : L ≤ 900) {a b : Int} (v1 : 1 ≤ a) (v2 : b ≤ 127) : (a ≤ bA X L p ∧ bA X L p ≤ b) ↔ (p < L ∧ a ≤ X p ∧ X p ≤ b) := by
  unfold bA
  split
  · have := hX p (by omega)
    omega
  · omega
theorem r_byteAt {l : Launch} {E : EnvT} {d : Nat} {K : AV → Mem → Prop} {M : Mem} {Z : Ch} {A : Nat → Int} {X : Nat → Int} {L p : Nat} (hd : 1 ≤ d) (hZ : TX X L Z) (hX : XBn X) (L9 : L ≤ 900) (hp : p ≤ 2000) (h : K (.int (iN (bA X L p)), 0) (zA M Z A)) : CT l E d m_Mod_byteAt [(.ref 24, 41), (.int (iN (p : Int)), 0)] (zA M Z A) K := by
  refine CT.of pn_Mod (Nat.le_of_ble_eq_true rfl) ?_
  refine b_Mod_byteAt_0 (by omega) ?_
  rw [zA_0, hZ.1, iN_le (by omega) (by omega) (by omega) (by omega), zA_c M Z A (show 7 ≠ 1 by decide), iN_clN (by omega)]
  unfold bA at h
  refine ⟨fun c => ?_, fun c => ⟨iN_in (by omega) (by omega) (by omega), ?_⟩⟩
  · rw [if_neg (by omega)] at h; exact h
  · rw [if_pos (by omega)] at h
    have x := hX p (by omega)
    have e := and255 (X p + 128).toNat (by omega)
    rw [show (((X p + 128).toNat : Nat) : Int) - 128 = X p by omega] at e
    rw [hZ.2 p (by omega), e]
    exact h
theorem r_isSmall {l : Launch} {E : EnvT} {d : Nat} {K : AV → Mem → Prop} {M : Mem} {v : Int} (hd : 1 ≤ d) (v1 : -1 ≤ v) (v2 : v ≤ 255) (h : K (.int (iN (b2i (decide (97 ≤ v ∧ v ≤ 122)))), 0) M) : CT l E d m_Mod_isSmall [(.int (iN v), 0)] M K := by
  refine CT.of pn_Mod (Nat.le_of_ble_eq_true rfl) ?_
  refine b_Mod_isSmall_0 (by omega) ?_
  simp (disch := omega) only [iN_lt]
  refine ⟨fun c => ⟨z01, ?_⟩, fun c => ⟨fun c2 => ⟨z01, ?_⟩, fun c2 => ⟨o01, ?_⟩⟩⟩
  · rw [decide_eq_false (by omega)] at h; exact h
  · rw [decide_eq_false (by omega)] at h; exact h
  · rw [decide_eq_true (by omega)] at h; exact h
theorem r_isDigit {l : Launch} {E : EnvT} {d : Nat} {K : AV → Mem → Prop} {M : Mem} {v : Int} (hd : 1 ≤ d) (v1 : -1 ≤ v) (v2 : v ≤ 255) (h : K (.int (iN (b2i (decide (48 ≤ v ∧ v ≤ 57)))), 0) M) : CT l E d m_Mod_isDigit [(.int (iN v), 0)] M K := by
  refine CT.of pn_Mod (Nat.le_of_ble_eq_true rfl) ?_
  refine b_Mod_isDigit_0 (by omega) ?_
  simp (disch := omega) only [iN_lt]
  refine ⟨fun c => ⟨z01, ?_⟩, fun c => ⟨fun c2 => ⟨z01, ?_⟩, fun c2 => ⟨o01, ?_⟩⟩⟩
  · rw [decide_eq_false (by omega)] at h; exact h
  · rw [decide_eq_false (by omega)] at h; exact h
  · rw [decide_eq_true (by omega)] at h; exact h
/-- only the reference's token differs -/
def ZT (Z Z' : Ch) : Prop := ∀ c k, ¬ (c = 0 ∧ 12 ≤ k ∧ k ≤ 15) → Z' c k = Z c k
theorem ZT.rf (Z : Ch) : ZT Z Z := fun _ _ _ => rfl
theorem ZT.tr {Z Z' Z'' : Ch} (h : ZT Z Z') (h' : ZT Z' Z'') : ZT Z Z'' := fun c k q => by rw [h' c k q, h c k q]
theorem ZT.u {Z Z' : Ch} (h : ZT Z Z') (k : Nat) (v : Int) (h1 : 12 ≤ k) (h2 : k ≤ 15) : ZT Z (upd2 Z' 0 k v) := fun c j q => by
  rw [upd2_nn _ (by omega)]
  exact h c j q
theorem TX.zt {X : Nat → Int} {L : Nat} {Z Z' : Ch} (h : TX X L Z) (z : ZT Z Z') : TX X L Z' := ⟨by rw [z 0 11 (by omega)]; exact h.1, fun j hj => by rw [z 7 j (by omega)]; exact h.2 j hj⟩
theorem r_ahead81 {l : Launch} {E : EnvT} {d : Nat} {K : AV → Mem → Prop} {M : Mem} {A : Nat → Int} {X : Nat → Int} {L : Nat} (hd : 2 ≤ d) (hX : XBn X) (L9 : L ≤ 900) : ∀ (m p n : Nat) (w : Int) (Z : Ch), p + m = L → Z 0 14 = p → TX X L Z → (∀ Z', ZT Z Z' → Z' 0 13 = Z 0 13 → Z' 0 15 = Z 0 15 → Z' 0 14 = ((rwF X m p n w).1 : Int) → Z' 0 12 = 2 → K (.null, 0) (zA M Z' A)) → G l E d m_Mod_ahead 81 [(0, (.ref 24, 41))] [] (zA M Z A) K := by
  intro m
  induction m with
  | zero =>
    intro p n w Z e1 e2 t h
    refine b_Mod_ahead_81 (by omega) ?_
    rw [zA_0, e2]
    have br := bA_rng (X := X) (L := L) p
    have bi := bA_in (p := p) hX L9 (a := 97) (b := 122) (by omega) (by omega)
    refine r_byteAt (by omega) t hX L9 (by omega) (r_isSmall (by omega) br.1 br.2 ?_)
    rw [toI_int, b2i_z, decide_eq_false (by omega)]
    refine ⟨fun _ => ?_, fun c => absurd rfl c⟩
    rw [iN_small (by omega) (by omega), zA_u0]
    exact h _ ((ZT.rf Z).u 12 2 (by omega) (by omega)) (upd2_k _ _ (by decide)) (upd2_k _ _ (by decide)) (by rw [upd2_k _ _ (by decide)]; exact e2) (upd2_same _ _ _ _)
  | succ m ih =>
    intro p n w Z e1 e2 t h
    refine b_Mod_ahead_81 (by omega) ?_
    rw [zA_0, e2]
    have br := bA_rng (X := X) (L := L) p
    have bi := bA_in (p := p) hX L9 (a := 97) (b := 122) (by omega) (by omega)
    refine r_byteAt (by omega) t hX L9 (by omega) (r_isSmall (by omega) br.1 br.2 ?_)
    rw [toI_int, b2i_z, decide_eq_false_iff_not, zA_0, e2, iN_add, iN_small (z := (p : Int) + 1) (by omega) (by omega), iN_small (z := 2) (by omega) (by omega), zA_u0, zA_u0]
    have he : rwF X (m + 1) p n w = if 97 ≤ X p ∧ X p ≤ 122 then rwF X m (p + 1) (n + 1) (if n < 8 then w * 27 + X p - 96 else w) else (p, n, w) := rfl
    rw [he] at h
    refine ⟨fun c => ?_, fun c => ?_⟩
    · rw [if_neg (fun q => c (bi.mpr ⟨by omega, q⟩))] at h
      exact h _ ((ZT.rf Z).u 12 2 (by omega) (by omega)) (upd2_k _ _ (by decide)) (upd2_k _ _ (by decide)) (by rw [upd2_k _ _ (by decide)]; exact e2) (upd2_same _ _ _ _)
    · have c2 := bi.mp (Classical.not_not.mp c)
      rw [if_pos c2.2] at h
      refine ih (p + 1) (n + 1) _ _ (by omega) (by rw [upd2_same]; push_cast; rfl) (t.zt ((ZT.rf Z).u 14 _ (by omega) (by omega))) (fun Z' z1 z2 z3 z4 z5 => h Z' (((ZT.rf Z).u 14 _ (by omega) (by omega)).tr z1) (by rw [z2, upd2_k _ _ (by decide)]) (by rw [z3, upd2_k _ _ (by decide)]) z4 z5)
theorem r_ahead128 {l : Launch} {E : EnvT} {d : Nat} {K : AV → Mem → Prop} {M : Mem} {A : Nat → Int} {X : Nat → Int} {L q : Nat} (hd : 2 ≤ d) (hX : XBn X) (L9 : L ≤ 900) : ∀ (m p n : Nat) (v val : Int) (Z : Ch), p + m = L → p = q + n → Z 0 14 = p → Z 0 13 = q → Z 0 15 = val → 0 ≤ val → val ≤ 100000 → (n ≤ 4 → val = v) → 0 ≤ v → v < ((10 ^ (min n 4) : Nat) : Int) → TX X L Z → (∀ Z', ZT Z Z' → Z' 0 13 = q → Z' 0 14 = ((rnF X m p n v).1 : Int) → Z' 0 12 = (if (rnF X m p n v).2.1 ≤ 4 then 3 else 1) → ((rnF X m p n v).2.1 ≤ 4 → Z' 0 15 = (rnF X m p n v).2.2) → (0 ≤ Z' 0 15 ∧ Z' 0 15 ≤ 100000) → K (.null, 0) (zA M Z' A)) → G l E d m_Mod_ahead 128 [(0, (.ref 24, 41))] [] (zA M Z A) K := by
  have fin : ∀ (p n : Nat) (v val : Int) (Z : Ch), p ≤ L → p = q + n → Z 0 14 = p → Z 0 13 = q → Z 0 15 = val → 0 ≤ val → val ≤ 100000 → (n ≤ 4 → val = v) → (∀ Z', ZT Z Z' → Z' 0 13 = q → Z' 0 14 = (p : Int) → Z' 0 12 = (if n ≤ 4 then 3 else 1) → (n ≤ 4 → Z' 0 15 = v) → (0 ≤ Z' 0 15 ∧ Z' 0 15 ≤ 100000) → K (.null, 0) (zA M Z' A)) → ((iN (zA M Z A 24 0 14) - iN (zA M Z A 24 0 13) ≤ iN 4 → K (.null, 0) (upd3 (zA M Z A) 24 0 12 (iN 3).toInt)) ∧ (¬ iN (zA M Z A 24 0 14) - iN (zA M Z A 24 0 13) ≤ iN 4 → K (.null, 0) (upd3 (zA M Z A) 24 0 12 (iN 1).toInt))) := by
    intro p n v val Z p1 e0 e1 e2 e3 v1 v2 v3 h
    rw [zA_0, e1, e2, iN_sub, iN_le (by omega) (by omega) (by omega) (by omega), iN_small (z := 3) (by omega) (by omega), iN_small (z := 1) (by omega) (by omega), zA_u0, zA_u0]
    refine ⟨fun c => ?_, fun c => ?_⟩
    · have n4 : n ≤ 4 := (by omega)
      exact h _ ((ZT.rf Z).u 12 3 (by omega) (by omega)) (by rw [upd2_k _ _ (by decide)]; exact e2) (by rw [upd2_k _ _ (by decide)]; exact e1) (by rw [upd2_same, if_pos n4]) (fun _ => by rw [upd2_k _ _ (by decide), e3]; exact v3 n4) (by rw [upd2_k _ _ (by decide), e3]; exact ⟨v1, v2⟩)
    · have n4 : ¬ n ≤ 4 := (by omega)
      exact h _ ((ZT.rf Z).u 12 1 (by omega) (by omega)) (by rw [upd2_k _ _ (by decide)]; exact e2) (by rw [upd2_k _ _ (by decide)]; exact e1) (by rw [upd2_same, if_neg n4]) (fun q => absurd q n4) (by rw [upd2_k _ _ (by decide), e3]; exact ⟨v1, v2⟩)
  intro m
  induction m with
  | zero =>
    intro p n v val Z e1 e0 e2 e13 e15 a1 a2 a3 v1 v2 t h
    refine b_Mod_ahead_128 (by omega) ?_
    rw [zA_0, e2]
    have br := bA_rng (X := X) (L := L) p
    have bi := bA_in (p := p) hX L9 (a := 48) (b := 57) (by omega) (by omega)
    refine r_byteAt (by omega) t hX L9 (by omega) (r_isDigit (by omega) br.1 br.2 ?_)
    rw [toI_int, b2i_z, decide_eq_false (by omega)]
    refine ⟨fun _ => ?_, fun c => absurd rfl c⟩
    exact fin p n v val Z (by omega) e0 e2 e13 e15 a1 a2 a3 h
  | succ m ih =>
    intro p n v val Z e1 e0 e2 e13 e15 a1 a2 a3 v1 v2 t h
    refine b_Mod_ahead_128 (by omega) ?_
    rw [zA_0, e2]
    have br := bA_rng (X := X) (L := L) p
    have bi := bA_in (p := p) hX L9 (a := 48) (b := 57) (by omega) (by omega)
    have he : rnF X (m + 1) p n v = if 48 ≤ X p ∧ X p ≤ 57 then rnF X m (p + 1) (n + 1) (if n < 4 then v * 10 + X p - 48 else v) else (p, n, v) := rfl
    rw [he] at h
    refine r_byteAt (by omega) t hX L9 (by omega) (r_isDigit (by omega) br.1 br.2 ?_)
    rw [toI_int, b2i_z, decide_eq_false_iff_not]
    refine ⟨fun c => ?_, fun c => ?_⟩
    · rw [if_neg (fun q => c (bi.mpr ⟨by omega, q⟩))] at h
      exact fin p n v val Z (by omega) e0 e2 e13 e15 a1 a2 a3 h
    · have c2 := bi.mp (Classical.not_not.mp c)
      rw [if_pos c2.2] at h
      rw [zA_0, e2, e15]
      refine r_byteAt (by omega) t hX L9 (by omega) ?_
      have bx : bA X L p = X p := by unfold bA; rw [if_pos (by omega)]; omega
      rw [bx, toI_int, iN_mul, iN_add, iN_sub]
      refine c_min (by omega) (by omega) (by omega) (by omega) (by omega) ?_
      rw [toI_int, iN_small (by omega) (by omega), zA_u0, zA_0, upd2_k _ _ (show 14 ≠ 15 by decide), e2, iN_add, iN_small (by omega) (by omega), zA_u0]
      have zt : ZT Z (upd2 (upd2 Z 0 15 (min 100000 (10 * val + X p - 48))) 0 14 ((p : Int) + 1)) := ((ZT.rf Z).u 15 _ (by omega) (by omega)).u 14 _ (by omega) (by omega)
      have pw : n < 4 → v * 10 + X p - 48 < ((10 ^ (min (n + 1) 4) : Nat) : Int) := by
        intro n4
        rw [show min n 4 = n by omega] at v2
        rw [show min (n + 1) 4 = n + 1 by omega, Nat.pow_succ]
        generalize (10 : Nat) ^ n = P at v2 ⊢
        push_cast
        omega
      have p4 : n < 4 → v < 1000 := by
        intro n4
        have : 10 ^ (min n 4) ≤ 10 ^ 3 := Nat.pow_le_pow_right (by decide) (by omega)
        have e : (10 : Nat) ^ 3 = 1000 := by decide
        omega
      refine ih (p + 1) (n + 1) _ (min 100000 (10 * val + X p - 48)) _ (by omega) (by omega) (by rw [upd2_same]; push_cast; rfl) (by rw [upd2_k _ _ (by decide), upd2_k _ _ (by decide)]; exact e13) (by rw [upd2_k _ _ (by decide), upd2_same]) (by omega) (by omega) (fun n4 => ?_) ?_ ?_ (t.zt zt) (fun Z' z1 => h Z' (zt.tr z1))
      · have := a3 (by omega)
        have := p4 (by omega)
        rw [if_pos (by omega)]
        omega
      · split <;> omega
      · split
        · exact pw (by omega)
        · rw [show min (n + 1) 4 = min n 4 by omega]; exact v2
/-- letters of a word from q on, as the class and as the reference count them -/
def w27 (X : Nat → Int) (q : Nat) : Nat → Int
  | 0 => 0
  | n + 1 => w27 X q n * 27 + X (q + n) - 96
theorem rwF_spec (X : Nat → Int) (q : Nat) : ∀ (m n : Nat) (w : Int), w = w27 X q (min n 8) → (∀ j, j < n → 97 ≤ X (q + j) ∧ X (q + j) ≤ 122) → ∃ k : Nat, (rwF X m (q + n) n w).1 = q + k ∧ (rwF X m (q + n) n w).2.1 = k ∧ (rwF X m (q + n) n w).2.2 = w27 X q (min k 8) ∧ (∀ j, j < k → 97 ≤ X (q + j) ∧ X (q + j) ≤ 122) ∧ n ≤ k ∧ k ≤ n + m ∧ (97 ≤ X (q + n) → X (q + n) ≤ 122 → 1 ≤ m → n < k)
  | 0, n, w, hw, hl => ⟨n, rfl, rfl, hw, hl, (by omega), (by omega), fun _ _ q => absurd q (by omega)⟩
  | m + 1, n, w, hw, hl => by
    have he : rwF X (m + 1) (q + n) n w = if 97 ≤ X (q + n) ∧ X (q + n) ≤ 122 then rwF X m (q + n + 1) (n + 1) (if n < 8 then w * 27 + X (q + n) - 96 else w) else (q + n, n, w) := rfl
    rw [he]
    by_cases c : 97 ≤ X (q + n) ∧ X (q + n) ≤ 122
    · rw [if_pos c]
      obtain ⟨k, k1, k2, k3, k4, k5, k6, k7⟩ := rwF_spec X q m (n + 1) (if n < 8 then w * 27 + X (q + n) - 96 else w) (by
        split
        · rename_i n8
          rw [show min (n + 1) 8 = n + 1 by omega]
          rw [show min n 8 = n by omega] at hw
          show _ = w27 X q n * 27 + X (q + n) - 96
          rw [hw]
        · rw [show min (n + 1) 8 = min n 8 by omega]; exact hw) (fun j hj => by
        by_cases e : j = n
        · rw [e]; exact c
        · exact hl j (by omega))
      exact ⟨k, k1, k2, k3, k4, (by omega), (by omega), fun _ _ _ => (by omega)⟩
    · rw [if_neg c]
      exact ⟨n, rfl, rfl, hw, hl, (by omega), (by omega), fun a b _ => absurd ⟨a, b⟩ c⟩
