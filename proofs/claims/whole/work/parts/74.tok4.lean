theorem upd2_id (C : Ch) (c k : Nat) : upd2 C c k (C c k) = C := by
  funext c' k'
  unfold upd2
  split
  · rename_i e; rw [e.1, e.2]
  · rfl
def skF (X : Nat → Int) : Nat → Nat → Nat
  | 0, p => p
  | m + 1, p => if X p = 32 ∨ X p = 10 then skF X m (p + 1) else p
theorem skF_rng (X : Nat → Int) : ∀ m p : Nat, p ≤ skF X m p ∧ skF X m p ≤ p + m
  | 0, p => ⟨Nat.le_refl p, Nat.le_refl p⟩
  | m + 1, p => by
    unfold skF
    split
    · have := skF_rng X m (p + 1)
      omega
    · omega
def kwA (w : Int) : Int := kwF (lI w) (STRB.getD 0 []) 0 (lI 0)
def tok0 (X : Nat → Int) (L : Nat) (T : Ch) (q : Nat) : Ch := upd2 (upd2 (upd2 (upd2 T 0 2 q) 0 4 q) 0 3 (if q < L then kindF (X q) else 0)) 0 8 (-1)
def tok1 (X : Nat → Int) (L : Nat) (T : Ch) : Ch :=
  if T 0 3 = 1 then upd2 (wordT X L T) 0 8 (if wordT X L T 0 7 ≤ 8 then kwA (wordT X L T 0 9) else -1)
  else if T 0 3 = 2 then numT X L T
  else if T 0 3 = 3 then upd2 (upd2 T 0 6 (X (T 0 2).toNat)) 0 2 (T 0 2 + 1)
  else T
def advT (X : Nat → Int) (L : Nat) (T : Ch) : Ch := tok1 X L (tok0 X L T (skF X (L - (T 0 2).toNat) (T 0 2).toNat))
def nSp (l : List Int32) : Nat := (l.filter (fun c => decide (c = iN 32))).length
theorem kwF_rng (x : Int64) : ∀ (l : List Int32) (i : Int) (g : Int64), kwF x l i g = -1 ∨ (i ≤ kwF x l i g ∧ kwF x l i g < i + nSp l)
  | [], _, _ => Or.inl rfl
  | c :: t, i, g => by
    unfold kwF
    by_cases hc : c = iN 32
    · have e : (nSp (c :: t) : Int) = (nSp t : Int) + 1 := by
        unfold nSp
        rw [List.filter_cons_of_pos (by simp [hc])]
        simp
      rw [e, if_pos hc]
      split
      · exact Or.inr ⟨by omega, by omega⟩
      · rcases kwF_rng x t (i + 1) (lI 0) with h | h
        · exact Or.inl h
        · exact Or.inr ⟨by omega, by omega⟩
    · have e : nSp (c :: t) = nSp t := by
        unfold nSp
        rw [List.filter_cons_of_neg (by simp [hc])]
      rw [e, if_neg hc]
      exact kwF_rng x t i (g * lI 27 + c.toInt64 - lI 96)
theorem kwA_rng (w : Int) : -1 ≤ kwA w ∧ kwA w ≤ 21 := by
  have e : (nSp (STRB.getD 0 []) : Int) = 22 := by decide +kernel
  rcases kwF_rng (lI w) (STRB.getD 0 []) 0 (lI 0) with h | h
  · unfold kwA; omega
  · unfold kwA; omega
theorem rwF_rng (X : Nat → Int) : ∀ (m p n : Nat) (w : Int), 0 ≤ w → w < ((27 ^ (min n 8) : Nat) : Int) → (p ≤ (rwF X m p n w).1 ∧ (rwF X m p n w).1 ≤ p + m) ∧ (rwF X m p n w).2.1 + p = n + (rwF X m p n w).1 ∧ 0 ≤ (rwF X m p n w).2.2 ∧ (rwF X m p n w).2.2 < ((27 ^ (min (rwF X m p n w).2.1 8) : Nat) : Int)
  | 0, p, n, w, w0, w1 => ⟨⟨Nat.le_refl p, Nat.le_refl p⟩, rfl, w0, w1⟩
  | m + 1, p, n, w, w0, w1 => by
    unfold rwF
    split
    · rename_i hx
      have ih := rwF_rng X m (p + 1) (n + 1) (if n < 8 then w * 27 + X p - 96 else w) (by split <;> omega) (by
        split
        · rename_i hn
          rw [show min n 8 = n by omega] at w1
          rw [show min (n + 1) 8 = n + 1 by omega, Nat.pow_succ]
          push_cast at w1 ⊢
          generalize (27 : Int) ^ n = P at w1
          omega
        · rw [show min (n + 1) 8 = min n 8 by omega]
          exact w1)
      exact ⟨⟨by omega, by omega⟩, by omega, ih.2.2.1, ih.2.2.2⟩
    · exact ⟨⟨Nat.le_refl p, by omega⟩, rfl, w0, w1⟩
theorem rnF_rng (X : Nat → Int) : ∀ (m p n : Nat) (v : Int), 0 ≤ v → v < ((10 ^ (min n 4) : Nat) : Int) → (p ≤ (rnF X m p n v).1 ∧ (rnF X m p n v).1 ≤ p + m) ∧ (rnF X m p n v).2.1 + p = n + (rnF X m p n v).1 ∧ 0 ≤ (rnF X m p n v).2.2 ∧ (rnF X m p n v).2.2 < ((10 ^ (min (rnF X m p n v).2.1 4) : Nat) : Int)
  | 0, p, n, w, w0, w1 => ⟨⟨Nat.le_refl p, Nat.le_refl p⟩, rfl, w0, w1⟩
  | m + 1, p, n, w, w0, w1 => by
    unfold rnF
    split
    · rename_i hx
      have ih := rnF_rng X m (p + 1) (n + 1) (if n < 4 then w * 10 + X p - 48 else w) (by split <;> omega) (by
        split
        · rename_i hn
          rw [show min n 4 = n by omega] at w1
          rw [show min (n + 1) 4 = n + 1 by omega, Nat.pow_succ]
          push_cast at w1 ⊢
          generalize (10 : Int) ^ n = P at w1
          omega
        · rw [show min (n + 1) 4 = min n 4 by omega]
          exact w1)
      exact ⟨⟨by omega, by omega⟩, by omega, ih.2.2.1, ih.2.2.2⟩
    · exact ⟨⟨Nat.le_refl p, by omega⟩, rfl, w0, w1⟩
/-- what is always so of TOKENS: its text, its length, bounds -/
def TI (T : Ch) (L : Nat) : Prop := T 0 0 = 0 ∧ T 0 1 = L ∧ (0 ≤ T 0 2 ∧ T 0 2 ≤ L) ∧ (0 ≤ T 0 3 ∧ T 0 3 ≤ 4) ∧ (0 ≤ T 0 4 ∧ T 0 4 ≤ 900) ∧ (0 ≤ T 0 5 ∧ T 0 5 ≤ 9999) ∧ (-128 ≤ T 0 6 ∧ T 0 6 ≤ 127) ∧ (0 ≤ T 0 7 ∧ T 0 7 ≤ 900) ∧ (-1 ≤ T 0 8 ∧ T 0 8 ≤ 21) ∧ (0 ≤ T 0 9 ∧ T 0 9 < 282429536481) ∧ (0 ≤ T 0 10 ∧ T 0 10 ≤ 9)
theorem tok0_TI {X : Nat → Int} {T : Ch} {L q : Nat} (L9 : L ≤ 900) (hT : TI T L) (hq : q ≤ L) : TI (tok0 X L T q) L := by
  obtain ⟨a0, a1, a2, a3, a4, a5, a6, a7, a8, a9, a10⟩ := hT
  have kr := kindF_rng (X q)
  unfold tok0 TI
  simp only [upd2, Nat.reduceEqDiff, and_true, and_false, if_true, if_false, and_self, true_and]
  refine ⟨a0, a1, by omega, ?_, by omega, a5, a6, a7, by omega, a9, a10⟩
  split <;> omega
theorem TI.num {T : Ch} {L : Nat} (hT : TI T L) {p v : Int} (p1 : 0 ≤ p) (p2 : p ≤ L) (v1 : 0 ≤ v) (v2 : v ≤ 9999) : TI (tokN T p v) L := by
  obtain ⟨a0, a1, a2, a3, a4, a5, a6, a7, a8, a9, a10⟩ := hT
  unfold tokN TI
  simp only [upd2, Nat.reduceEqDiff, and_true, and_false, if_true, if_false, and_self, true_and]
  exact ⟨a0, a1, ⟨p1, p2⟩, a3, a4, ⟨v1, v2⟩, a6, a7, a8, a9, a10⟩
theorem TI.k3 {T : Ch} {L : Nat} (hT : TI T L) : TI (upd2 T 0 3 4) L := by
  obtain ⟨a0, a1, a2, a3, a4, a5, a6, a7, a8, a9, a10⟩ := hT
  unfold TI
  simp only [upd2, Nat.reduceEqDiff, and_true, and_false, if_true, if_false, and_self, true_and]
  exact ⟨a0, a1, a2, by omega, a4, a5, a6, a7, a8, a9, a10⟩
theorem TI.f10 {T : Ch} {L : Nat} (hT : TI T L) {w : Int} (w1 : 0 ≤ w) (w2 : w ≤ 9) : TI (upd2 T 0 10 w) L := by
  obtain ⟨a0, a1, a2, a3, a4, a5, a6, a7, a8, a9, a10⟩ := hT
  unfold TI
  simp only [upd2, Nat.reduceEqDiff, and_true, and_false, if_true, if_false, and_self, true_and]
  exact ⟨a0, a1, a2, a3, a4, a5, a6, a7, a8, a9, ⟨w1, w2⟩⟩
theorem TI.word {T : Ch} {L : Nat} (hT : TI T L) {p n w k : Int} (p1 : 0 ≤ p) (p2 : p ≤ L) (n1 : 0 ≤ n) (n2 : n ≤ 900) (w1 : 0 ≤ w) (w2 : w < 282429536481) (k1 : -1 ≤ k) (k2 : k ≤ 21) : TI (upd2 (tokW T p n w) 0 8 k) L := by
  obtain ⟨a0, a1, a2, a3, a4, a5, a6, a7, a8, a9, a10⟩ := hT
  unfold tokW TI
  simp only [upd2, Nat.reduceEqDiff, and_true, and_false, if_true, if_false, and_self, true_and]
  exact ⟨a0, a1, ⟨p1, p2⟩, a3, a4, a5, a6, ⟨n1, n2⟩, ⟨k1, k2⟩, ⟨w1, w2⟩, a10⟩
theorem p27 (n : Nat) : ((27 ^ (min n 8) : Nat) : Int) ≤ 282429536481 := by
  have : 27 ^ (min n 8) ≤ 27 ^ 8 := Nat.pow_le_pow_right (by decide) (by omega)
  have e : (27 : Nat) ^ 8 = 282429536481 := by decide
  omega
theorem p10 (n : Nat) : ((10 ^ (min n 4) : Nat) : Int) ≤ 10000 := by
  have : 10 ^ (min n 4) ≤ 10 ^ 4 := Nat.pow_le_pow_right (by decide) (by omega)
  have e : (10 : Nat) ^ 4 = 10000 := by decide
  omega
theorem tok1_TI {X : Nat → Int} {T : Ch} {L : Nat} (L9 : L ≤ 900) (hX : ∀ j, j < 900 → -128 ≤ X j ∧ X j ≤ 127) (hT : TI T L) (h3 : T 0 3 = 3 → T 0 2 < L) : TI (tok1 X L T) L := by
  have hT' := hT
  obtain ⟨a0, a1, a2, a3, a4, a5, a6, a7, a8, a9, a10⟩ := hT'
  unfold tok1
  split
  · unfold wordT
    have w := rwF_rng X (L - (T 0 2).toNat) (T 0 2).toNat 0 0 (by omega) (by decide)
    have := p27 (rwF X (L - (T 0 2).toNat) (T 0 2).toNat 0 0).2.1
    have kr := kwA_rng (tokW T (rwF X (L - (T 0 2).toNat) (T 0 2).toNat 0 0).1 (rwF X (L - (T 0 2).toNat) (T 0 2).toNat 0 0).2.1 (rwF X (L - (T 0 2).toNat) (T 0 2).toNat 0 0).2.2 0 9)
    refine hT.word (by omega) (by omega) (by omega) (by omega) (by omega) (by omega) ?_ ?_
    · split <;> omega
    · split <;> omega
  · split
    · unfold numT numE
      have w := rnF_rng X (L - (T 0 2).toNat) (T 0 2).toNat 0 0 (by omega) (by decide)
      have := p10 (rnF X (L - (T 0 2).toNat) (T 0 2).toNat 0 0).2.1
      split
      · exact hT.num (by omega) (by omega) (by omega) (by omega)
      · exact (hT.num (by omega) (by omega) (by omega) (by omega)).k3
    · split
      · rename_i e
        have := h3 e
        have := hX (T 0 2).toNat (by omega)
        unfold TI
        simp only [upd2, Nat.reduceEqDiff, and_true, and_false, if_true, if_false, and_self, true_and]
        exact ⟨a0, a1, ⟨by omega, by omega⟩, a3, a4, a5, this, a7, a8, a9, a10⟩
      · exact hT
theorem tok0_3 (X : Nat → Int) (T : Ch) (L q : Nat) : tok0 X L T q 0 3 = if q < L then kindF (X q) else 0 := by simp [tok0, upd2]
theorem tok0_2 (X : Nat → Int) (T : Ch) (L q : Nat) : tok0 X L T q 0 2 = q := by simp [tok0, upd2]
theorem adv_TI {X : Nat → Int} {T : Ch} {L : Nat} (L9 : L ≤ 900) (hX : ∀ j, j < 900 → -128 ≤ X j ∧ X j ≤ 127) (hT : TI T L) : TI (advT X L T) L := by
  have p := hT.2.2.1
  have s := skF_rng X (L - (T 0 2).toNat) (T 0 2).toNat
  refine tok1_TI L9 hX (tok0_TI L9 hT (by omega)) (fun h => ?_)
  rw [tok0_3] at h
  rw [tok0_2]
  by_cases c : skF X (L - (T 0 2).toNat) (T 0 2).toNat < L
  · omega
  · rw [if_neg c] at h; omega
theorem c_advance {l : Launch} {E : EnvT} {d : Nat} {K : AV → Mem → Prop} {M : Mem} {r : Nat} {T : Ch} {L : Nat} (hd : 6 ≤ d) (hr : 0 ≠ r) (hT : TI T L) (L9 : L ≤ 900) (hX : ∀ j, j < 900 → -128 ≤ M 0 2 j ∧ M 0 2 j ≤ 127) (h : K (.null, 0) (setR M r (advT (M 0 2) L T))) : CT l E d m_Tokens_advance [(.ref r, 4)] (setR M r T) K := by
  refine CT.of pn_Tokens (Nat.le_of_ble_eq_true rfl) ?_
  have hT' := hT
  obtain ⟨t0, t1, t2, t3, t4, t5, t6, t7, t8, t9, t10⟩ := hT'
  have i1 : (iN (-1)).toInt = -1 := iN_small (by omega) (by omega)
  have t91 : ∀ T' : Ch, TI T' L → (T' 0 3 = 3 → T' 0 2 < L) → K (.null, 0) (setR M r (tok1 (M 0 2) L (upd2 T' 0 8 (-1)))) → G l E d m_Tokens_advance 91 [(0, (.ref r, 4))] [] (setR M r T') K := by
    intro T' hT' h3 h
    obtain ⟨a0, a1, a2, a3, a4, a5, a6, a7, a8, a9, a10⟩ := hT'
    refine b_Tokens_advance_91 (by omega) ?_
    have q3 : upd2 T' 0 8 (-1) 0 3 = T' 0 3 := by simp [upd2]
    have q2 : upd2 T' 0 8 (-1) 0 2 = T' 0 2 := by simp [upd2]
    have q1 : upd2 T' 0 8 (-1) 0 1 = T' 0 1 := by simp [upd2]
    have q0 : upd2 T' 0 8 (-1) 0 0 = T' 0 0 := by simp [upd2]
    unfold tok1 at h
    rw [q3] at h
    simp only [upd3_setR, setR_same, setR_setR, i1, q3, q2, q0, a0, show ((0 : Int)).toNat = 0 from rfl, setR_ne M _ hr]
    rw [iN_eq (by omega) (by omega) (by omega) (by omega), iN_eq (by omega) (by omega) (by omega) (by omega), iN_eq (by omega) (by omega) (by omega) (by omega)]
    refine ⟨fun c => c_readWord (by omega) hr (by rw [q0]; exact a0) (by rw [q1]; exact a1) L9 (by rw [q2]; exact a2.1) (by rw [q2]; exact a2.2) hX ?_, fun c1 => ⟨fun c => c_readNumber (by omega) hr (by rw [q0]; exact a0) (by rw [q1]; exact a1) L9 (by rw [q2]; exact a2.1) (by rw [q2]; exact a2.2) hX ?_, fun c2 => ⟨fun c => ⟨cl02, iN_in (by omega) (by omega) (by omega), ?_⟩, fun c3 => ?_⟩⟩⟩
    · rw [if_pos c] at h
      simp only [setR_same, setR_setR]
      have w := rwF_rng (M 0 2) (L - (T' 0 2).toNat) (T' 0 2).toNat 0 0 (by omega) (by decide)
      have e7 : wordT (M 0 2) L (upd2 T' 0 8 (-1)) 0 7 = (rwF (M 0 2) (L - (T' 0 2).toNat) (T' 0 2).toNat 0 0).2.1 := by unfold wordT; rw [q2, tokW_7]
      have b7 : 0 ≤ wordT (M 0 2) L (upd2 T' 0 8 (-1)) 0 7 ∧ wordT (M 0 2) L (upd2 T' 0 8 (-1)) 0 7 ≤ 900 := by rw [e7]; omega
      rw [iN_le (by omega) (by omega) (by omega) (by omega)]
      refine ⟨fun c7 => c_keywordOf (by omega) ?_, fun c7 => ?_⟩
      · rw [if_pos c7] at h
        have kr := kwA_rng (wordT (M 0 2) L (upd2 T' 0 8 (-1)) 0 9)
        unfold kwA at kr h
        rw [toI_int, iN_small (by omega) (by omega)]
        simp only [upd3_setR, setR_same, setR_setR]
        exact h
      · rw [if_neg c7] at h
        exact h
    · rw [if_neg c1, if_pos c] at h
      exact h
    · rw [if_neg c1, if_neg c2, if_pos c] at h
      have x := hX (T' 0 2).toNat (by omega)
      have l3 := h3 c
      rw [q2] at h
      rw [iN_cl (by omega) (by omega), iN_small (by omega) (by omega)]
      rw [show upd2 (upd2 T' 0 8 (-1)) 0 6 (M 0 2 (T' 0 2).toNat) 0 2 = T' 0 2 by simp [upd2], iN_add, iN_small (by omega) (by omega)]
      exact h
    · rw [if_neg c1, if_neg c2, if_neg c3] at h
      exact h
  have tail : ∀ q : Nat, q ≤ L → advT (M 0 2) L T = tok1 (M 0 2) L (tok0 (M 0 2) L T q) → G l E d m_Tokens_advance 52 [(0, (.ref r, 4))] [] (setR M r (upd2 T 0 2 q)) K := by
    intro q hq he
    rw [he] at h
    refine b_Tokens_advance_52 (by omega) ?_
    have e1 : upd2 (upd2 T 0 2 q) 0 4 q 0 1 = L := by simp [upd2, t1]
    have e2 : upd2 (upd2 T 0 2 q) 0 4 q 0 2 = q := by simp [upd2]
    have e0 : upd2 (upd2 T 0 2 q) 0 4 q 0 0 = 0 := by simp [upd2, t0]
    simp only [upd3_setR, setR_same, setR_setR, upd2_same, iN_small (show -2147483648 ≤ (q : Int) by omega) (show (q : Int) < 2147483648 by omega), e0, e1, e2, show ((0 : Int)).toNat = 0 from rfl, setR_ne M _ hr, iN_clN (show (q : Int) < 2147483648 by omega), iN_0I]
    rw [iN_le (by omega) (by omega) (by omega) (by omega)]
    have ti : ∀ v : Int, 0 ≤ v → v ≤ 4 → TI (upd2 (upd2 (upd2 T 0 2 q) 0 4 q) 0 3 v) L := by
      intro v v1 v2
      unfold TI
      simp only [upd2, Nat.reduceEqDiff, and_true, and_false, if_true, if_false, and_self, true_and]
      exact ⟨t0, t1, by omega, ⟨v1, v2⟩, by omega, t5, t6, t7, t8, t9, t10⟩
    have e3 : ∀ v : Int, upd2 (upd2 (upd2 T 0 2 q) 0 4 q) 0 3 v 0 3 = v := fun v => by simp [upd2]
    have e22 : ∀ v : Int, upd2 (upd2 (upd2 T 0 2 q) 0 4 q) 0 3 v 0 2 = q := fun v => by simp [upd2]
    refine ⟨fun c => t91 _ (ti 0 (by omega) (by omega)) (fun e => ?_) ?_, fun c => ⟨cl02, iN_in (by omega) (by omega) (by omega), ?_⟩⟩
    · rw [e3] at e; omega
    · unfold tok0 at h
      rw [if_neg (show ¬ q < L by omega)] at h
      exact h
    · have x := hX q (by omega)
      have kr := kindF_rng (M 0 2 q)
      refine c_kindOf (by omega) x.1 x.2 ?_
      rw [toI_int, iN_small (by omega) (by omega), setR_same, setR_setR]
      refine t91 _ (ti _ (by omega) (by omega)) (fun e => ?_) ?_
      · rw [e22]; omega
      · unfold tok0 at h
        rw [if_pos (show q < L by omega)] at h
        exact h
  have loop : ∀ m q : Nat, q + m = L → skF (M 0 2) (L - (T 0 2).toNat) (T 0 2).toNat = skF (M 0 2) m q → G l E d m_Tokens_advance 0 [(0, (.ref r, 4))] [] (setR M r (upd2 T 0 2 q)) K := by
    intro m
    induction m with
    | zero =>
      intro q hq he
      refine b_Tokens_advance_0 (by omega) ?_
      refine ⟨fun _ => tail q (by omega) (by unfold advT; rw [he]; rfl), fun c => absurd ?_ c⟩
      rw [setR_same, upd2_same, upd2_k _ _ (by decide), t1]
      exact (iN_le (by omega) (by omega) (by omega) (by omega)).mpr (by omega)
    | succ m ih =>
      intro q hq he
      have x := hX q (by omega)
      refine b_Tokens_advance_0 (by omega) ?_
      simp only [upd3_setR, setR_same, setR_setR, upd2_same, upd2_k T _ (show 1 ≠ 2 by decide), upd2_k T _ (show 0 ≠ 2 by decide), t0, t1, show ((0 : Int)).toNat = 0 from rfl, setR_ne M _ hr, iN_clN (show (q : Int) < 2147483648 by omega), iN_add, upd2_twice]
      rw [iN_le (by omega) (by omega) (by omega) (by omega), iN_eq (by omega) (by omega) (by omega) (by omega), iN_eq (by omega) (by omega) (by omega) (by omega), iN_small (by omega) (by omega)]
      have step : M 0 2 q = 32 ∨ M 0 2 q = 10 → G l E d m_Tokens_advance 0 [(0, (.ref r, 4))] [] (setR M r (upd2 T 0 2 ((q : Int) + 1))) K := by
        intro e
        refine ih (q + 1) (by omega) ?_
        rw [he]
        show (if M 0 2 q = 32 ∨ M 0 2 q = 10 then skF (M 0 2) m (q + 1) else q) = _
        rw [if_pos e]
      refine ⟨fun c => absurd c (by omega), fun _ => ⟨cl02, iN_in (by omega) (by omega) (by omega), fun c => step (Or.inl c), fun c1 => ⟨cl02, iN_in (by omega) (by omega) (by omega), fun c2 => ?_, fun c2 => step (Or.inr c2)⟩⟩⟩
      refine tail q (by omega) ?_
      unfold advT
      rw [he]
      show tok1 _ _ (tok0 _ _ _ (if M 0 2 q = 32 ∨ M 0 2 q = 10 then skF (M 0 2) m (q + 1) else q)) = _
      rw [if_neg (by omega)]
  obtain ⟨q, hq⟩ : ∃ q : Nat, T 0 2 = q := ⟨(T 0 2).toNat, (by omega)⟩
  have := loop (L - q) q (by omega) (by rw [hq]; rfl)
  rw [← hq, show upd2 T 0 2 (T 0 2) = T from upd2_id T 0 2] at this
  exact this
