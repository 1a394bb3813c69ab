def oweC (C : Ch) (a : Int) (b : Nat) (n : Int) : Bool × Ch :=
  if slotOfC C a b ≠ -1 then (if C 7 (slotOfC C a b).toNat + n ≤ 999 then (true, upd2 C 7 (slotOfC C a b).toNat (C 7 (slotOfC C a b).toNat + n)) else (false, C))
  else if placeOfC C a b ≠ -1 then (if C 11 (placeOfC C a b).toNat + n ≤ 999 then (true, upd2 C 11 (placeOfC C a b).toNat (C 11 (placeOfC C a b).toNat + n)) else (false, C))
  else if slotOfC C (-1) b = -1 then (if C 8 3 < 8 then (true, joinC C a b n) else (false, C))
  else (true, upd2 (upd2 C 6 (slotOfC C (-1) b).toNat a) 7 (slotOfC C (-1) b).toNat n)
theorem VB_owe {C : Ch} {a : Int} {b : Nat} {n : Int} (hV : VB C) (a1 : 0 ≤ a) (a2 : a < 8) (hb : b < 8) (h1 : 0 ≤ n) (h2 : n ≤ 999) : VB (oweC C a b n).2 := by
  unfold oweC
  split
  · split
    · rcases slotOf_rng hV a hb with e | ⟨i, e, -, -, hi, -⟩
      · contradiction
      · rename_i h9
        rw [e] at h9 ⊢
        rw [show ((i : Int)).toNat = i from rfl] at h9 ⊢
        have := hV.de i hi
        exact VB_7 hV (by omega) (by omega)
    · exact hV
  · split
    · split
      · rcases placeOf_rng hV a b with e | ⟨i, e, -, hi, -, -⟩
        · contradiction
        · rename_i h9
          rw [e] at h9 ⊢
          rw [show ((i : Int)).toNat = i from rfl] at h9 ⊢
          have := hV.wm i hi
          exact VB_11 hV (by omega) (by omega)
      · exact hV
    · split
      · split
        · rename_i h9
          exact VB_join hV h9 a1 a2 (by omega) (by omega) h1 h2
        · exact hV
      · exact VB_7 (VB_6 hV (by omega) (by omega)) h1 h2
theorem c_owe {l : Launch} {E : EnvT} {d : Nat} {K : AV → Mem → Prop} {M : Mem} {r : Nat} {C : Ch} {a b : Nat} {n : Int} (hd : 2 ≤ d) (hV : VB C) (ha : a < 8) (hb : b < 8) (h1 : 0 ≤ n) (h2 : n ≤ 999) (h : K (.int (iN (b2i (oweC C a b n).1)), 0) (setR M r (oweC C a b n).2)) : CT l E d m_Choir_owe [(.ref r, 11), (.int (iN a), 0), (.int (iN b), 0), (.int (iN n), 0)] (setR M r C) K := by
  refine CT.of pn_Choir (Nat.le_of_ble_eq_true rfl) ?_
  refine b_Choir_owe_0 (by omega) (c_slotOfS (by omega) hV hb (by omega) (by omega) ?_)
  unfold oweC at h
  rcases slotOf_rng hV a hb with e | ⟨i, e, -, -, hi, -⟩
  · rw [if_neg (by simp [e])] at h
    rw [e, toI_int]
    refine ⟨fun _ => c_placeOfS (by omega) hV (by omega) (by omega) (by omega) (by omega) ?_, fun c => absurd rfl c⟩
    rcases placeOf_rng hV a b with e2 | ⟨j, e2, -, hj, -, -⟩
    · rw [if_neg (by simp [e2])] at h
      rw [e2, toI_int]
      refine ⟨fun _ => c_slotOfS (by omega) hV hb (by omega) (by omega) ?_, fun c => absurd rfl c⟩
      rcases slotOf_rng hV (-1) hb with e3 | ⟨f, e3, -, -, hf, -⟩
      · rw [if_pos e3] at h
        rw [e3, toI_int]
        refine ⟨fun c => absurd rfl c, fun _ => c_join (by omega) hV (by omega) (by omega) (by omega) (by omega) h1 h2 ?_⟩
        rw [toI_int]
        refine ⟨bb01 _, ?_⟩
        by_cases c : C 8 3 < 8
        · rw [if_pos c] at h ⊢; rw [decide_eq_true c]; exact h
        · rw [if_neg c] at h ⊢; rw [decide_eq_false c]; exact h
      · rw [if_neg (by omega), e3] at h
        rw [e3, toI_int, iN_eq (by omega) (by omega) (by omega) (by omega)]
        refine ⟨fun _ => ?_, fun c => absurd c (by omega)⟩
        refine ⟨iN_in (by omega) (by omega) (by omega), iN_in (by omega) (by omega) (by omega), o01, ?_⟩
        simp only [upd3_setR, setR_same, setR_setR, iN_clN (show (f : Int) < 2147483648 by omega), iN_small (show -2147483648 ≤ (a : Int) by omega) (show (a : Int) < 2147483648 by omega), iN_small (show -2147483648 ≤ n by omega) (show n < 2147483648 by omega)]
        exact h
    · rw [if_pos (by omega), e2] at h
      rw [show ((j : Int)).toNat = j from rfl] at h
      rw [e2, toI_int, iN_eq (by omega) (by omega) (by omega) (by omega)]
      refine ⟨fun c => absurd c (by omega), fun _ => c_raise (by omega) hV hj h1 (by omega) ?_⟩
      rw [toI_int]
      refine ⟨bb01 _, ?_⟩
      by_cases c : C 11 j + n ≤ 999
      · rw [if_pos c] at h ⊢; rw [decide_eq_true c]; exact h
      · rw [if_neg c] at h ⊢; rw [decide_eq_false c]; exact h
  · rw [if_pos (by omega), e] at h
    rw [show ((i : Int)).toNat = i from rfl] at h
    rw [e, toI_int, iN_eq (by omega) (by omega) (by omega) (by omega)]
    have hde := hV.de i hi
    refine ⟨fun c => absurd c (by omega), fun _ => ?_⟩
    simp only [upd3_setR, setR_same, setR_setR, iN_add, iN_clN (show (i : Int) < 2147483648 by omega), iN_small (show -2147483648 ≤ C 7 i + n by omega) (show C 7 i + n < 2147483648 by omega), iN_le (show -2147483648 ≤ C 7 i + n by omega) (show C 7 i + n < 2147483648 by omega) (show -2147483648 ≤ (999 : Int) by omega) (show (999 : Int) < 2147483648 by omega)]
    refine ⟨iN_in (by omega) (by omega) (by omega), fun c => ⟨iN_in (by omega) (by omega) (by omega), iN_in (by omega) (by omega) (by omega), o01, ?_⟩, fun c => ⟨z01, ?_⟩⟩
    · rw [if_pos c] at h; exact h
    · rw [if_neg c] at h; exact h
def lendC (C : Ch) (a b : Int) (n : Int) : Bool × Ch :=
  if twoB C a b = true ∧ inS (C 0 11) b.toNat = false ∧ n ≤ C 2 a.toNat ∧ C 2 b.toNat + n ≤ 9999 ∧ (oweC C b a.toNat n).1 = true then
    (true, upd2 (upd2 (oweC C b a.toNat n).2 2 a.toNat (C 2 a.toNat - n)) 2 b.toNat (C 2 b.toNat + n)) else (false, C)
theorem oweC_false {C : Ch} {a : Int} {b : Nat} {n : Int} (h : (oweC C a b n).1 = false) : (oweC C a b n).2 = C := by
  revert h
  unfold oweC
  split
  · split
    · intro h; cases h
    · intro _; rfl
  · split
    · split
      · intro h; cases h
      · intro _; rfl
    · split
      · split
        · intro h; cases h
        · intro _; rfl
      · intro h; cases h
theorem joinC_c {C : Ch} {a b n : Int} {c : Nat} (h : c ≠ 8 ∧ c ≠ 9 ∧ c ≠ 10 ∧ c ≠ 11) : joinC C a b n c = C c := by
  unfold joinC
  rw [upd2_c _ _ h.1, upd2_c _ _ h.2.2.2, upd2_c _ _ h.2.2.1, upd2_c _ _ h.2.1]
theorem oweC_c {C : Ch} {a : Int} {b : Nat} {n : Int} {c : Nat} (h : c ≠ 6 ∧ c ≠ 7 ∧ c ≠ 8 ∧ c ≠ 9 ∧ c ≠ 10 ∧ c ≠ 11) : (oweC C a b n).2 c = C c := by
  unfold oweC
  split
  · split
    · exact upd2_c _ _ h.2.1
    · rfl
  · split
    · split
      · exact upd2_c _ _ h.2.2.2.2.2
      · rfl
    · split
      · split
        · exact joinC_c h.2.2
        · rfl
      · show upd2 (upd2 _ _ _ _) _ _ _ c = _
        rw [upd2_c _ _ h.2.1, upd2_c _ _ h.1]
theorem VB_lend {C : Ch} {a b : Int} {n : Int} (hV : VB C) (h1 : 0 ≤ n) (h2 : n ≤ 999) : VB (lendC C a b n).2 := by
  unfold lendC
  split
  · rename_i h
    obtain ⟨t1, t2, t3⟩ := twoB_spec h.1
    have := hV.n
    have p1 := hV.pu a.toNat (by omega)
    have p2 := hV.pu b.toNat (by omega)
    exact VB_2 (VB_2 (VB_owe hV (by omega) (by omega) (by omega) h1 h2) (by omega) (by omega)) (by omega) (by omega)
  · exact hV
theorem c_lendCoins {l : Launch} {E : EnvT} {d : Nat} {K : AV → Mem → Prop} {M : Mem} {r : Nat} {C : Ch} {a b : Int} {n : Int} (hd : 3 ≤ d) (hV : VB C) (a1 : -2147483648 ≤ a) (a2 : a < 2147483648) (b1 : -2147483648 ≤ b) (b2 : b < 2147483648) (h1 : 0 ≤ n) (h2 : n ≤ 999) (h : K (.int (iN (b2i (lendC C a b n).1)), 0) (setR M r (lendC C a b n).2)) : CT l E d m_Choir_lendCoins [(.ref r, 11), (.int (iN a), 0), (.int (iN b), 0), (.int (iN n), 0)] (setR M r C) K := by
  refine CT.of pn_Choir (Nat.le_of_ble_eq_true rfl) ?_
  refine b_Choir_lendCoins_0 (by omega) (c_areTwoS (by omega) hV a1 a2 b1 b2 ?_)
  unfold lendC at h
  rw [toI_int, b2i_z]
  refine ⟨fun c => ⟨z01, ?_⟩, fun c => ?_⟩
  · rw [if_neg (by simp [c])] at h; exact h
  · rw [Bool.not_eq_false] at c
    obtain ⟨t1, t2, t3⟩ := twoB_spec c
    have hn := hV.n
    obtain ⟨x, rfl⟩ : ∃ x : Nat, a = x := ⟨a.toNat, (by omega)⟩
    obtain ⟨y, rfl⟩ : ∃ y : Nat, b = y := ⟨b.toNat, (by omega)⟩
    have hxy : (y : Nat) ≠ x := fun q => t3 (by rw [q])
    have p1 := hV.pu x (by omega)
    have p2 := hV.pu y (by omega)
    have hm := hV.ms 11 (by omega) (by omega)
    simp only [show ((x : Int)).toNat = x from rfl, show ((y : Int)).toNat = y from rfl] at h
    rw [setR_same]
    refine c_isIn (by omega) hm.1 hm.2 (by omega) ?_
    rw [toI_int, b2i_z]
    refine ⟨fun c2 => ⟨z01, ?_⟩, fun c2 => ?_⟩
    · rw [if_neg (by simp [c2])] at h; exact h
    · simp only [setR_same, iN_add, iN_sub, iN_clN (show (x : Int) < 2147483648 by omega), iN_clN (show (y : Int) < 2147483648 by omega)]
      refine ⟨iN_in (by omega) (by omega) (by omega), fun c3 => ⟨z01, ?_⟩, fun c3 => ⟨iN_in (by omega) (by omega) (by omega), fun c4 => c_owe (by omega) hV (by omega) (by omega) h1 h2 ?_, fun c4 => ⟨z01, ?_⟩⟩⟩
      · rw [iN_lt (by omega) (by omega) (by omega) (by omega)] at c3
        rw [if_neg (by omega)] at h; exact h
      · rw [iN_lt (by omega) (by omega) (by omega) (by omega)] at c3
        rw [iN_le (by omega) (by omega) (by omega) (by omega)] at c4
        rw [toI_int, b2i_z]
        have ec : (oweC C y x n).2 2 = C 2 := oweC_c (by omega)
        refine ⟨fun c5 => ⟨iN_in (by omega) (by omega) (by omega), iN_in (by omega) (by omega) (by omega), iN_in (by omega) (by omega) (by omega), iN_in (by omega) (by omega) (by omega), o01, ?_⟩, fun c5 => ⟨z01, ?_⟩⟩
        · rw [Bool.not_eq_false] at c5
          rw [if_pos ⟨c, c2, (by omega), (by omega), c5⟩] at h
          simp only [upd3_setR, setR_same, setR_setR, ec, upd2_k _ _ hxy, iN_small (show -2147483648 ≤ C 2 x - n by omega) (show C 2 x - n < 2147483648 by omega), iN_small (show -2147483648 ≤ C 2 y + n by omega) (show C 2 y + n < 2147483648 by omega), iN_sub, iN_add]
          exact h
        · rw [if_neg (by simp [c5])] at h
          rw [oweC_false c5]; exact h
      · rw [iN_lt (by omega) (by omega) (by omega) (by omega)] at c3
        rw [iN_le (by omega) (by omega) (by omega) (by omega)] at c4
        rw [if_neg (by omega)] at h; exact h
def settleF : Nat → Nat → Ch → Ch
  | 0, _, C => C
  | f + 1, k, C => if (k : Int) < C 8 3 then (if slotOfC C (-1) (C 10 k).toNat = -1 then settleF f (k + 1) C else settleF f k (leaveC (upd2 (upd2 C 6 (slotOfC C (-1) (C 10 k).toNat).toNat (C 9 k)) 7 (slotOfC C (-1) (C 10 k).toNat).toNat (C 11 k)) k)) else C
def settleC (C : Ch) : Ch := settleF 8 0 C
theorem VB_settleF : ∀ (f k : Nat) {C : Ch}, VB C → VB (settleF f k C)
  | 0, _, _, h => h
  | f + 1, k, C, h => by
    unfold settleF
    split
    · rename_i hk
      have hw := h.w
      have b1 := h.wa k (by omega)
      have b2 := h.wb k (by omega)
      have b3 := h.wm k (by omega)
      split
      · exact VB_settleF f (k + 1) h
      · refine VB_settleF f k (VB_leave (VB_7 (VB_6 h (by omega) (by omega)) (by omega) (by omega)) k ?_)
        rw [upd2_c _ _ (show 8 ≠ 7 by decide), upd2_c _ _ (show 8 ≠ 6 by decide)]
        omega
    · exact h
theorem VB_settle {C : Ch} (h : VB C) : VB (settleC C) := VB_settleF 8 0 h
theorem c_settle {l : Launch} {E : EnvT} {d : Nat} {K : AV → Mem → Prop} {M : Mem} {r : Nat} {C : Ch} (hd : 2 ≤ d) (hV : VB C) (h : K (.null, 0) (setR M r (settleC C))) : CT l E d m_Choir_settle [(.ref r, 11)] (setR M r C) K := by
  refine CT.of pn_Choir (Nat.le_of_ble_eq_true rfl) ?_
  refine b_Choir_settle_0 (by omega) ?_
  have key : ∀ (f t k : Nat) (D : Ch), t + f = 8 → k ≤ t → VB D → settleC C = settleF f k D → G l E d m_Choir_settle 4 [(0, (.ref r, 11)), (1, (.int (iN k), 0)), (2, (.int (iN t), 0))] [] (setR M r D) K := by
    intro f
    induction f with
    | zero =>
      intro t k D ht hk hD he
      rw [he] at h
      exact b_Choir_settle_4 (by omega) ⟨fun _ => h, fun c => absurd ((iN_le (by omega) (by omega) (by omega) (by omega)).mpr (by omega)) c⟩
    | succ f ih =>
      intro t k D ht hk hD he
      refine b_Choir_settle_4 (by omega) ?_
      have hw := hD.w
      simp only [setR_same, iN_clN (show (k : Int) < 2147483648 by omega), iN_add]
      refine ⟨fun c => absurd ((iN_le (by omega) (by omega) (by omega) (by omega)).mp c) (by omega), fun _ => ⟨fun c => ?_, fun c => ?_⟩⟩
      · rw [iN_le (by omega) (by omega) (by omega) (by omega)] at c
        rw [he] at h
        unfold settleF at h
        rw [if_neg (by omega)] at h
        exact h
      · rw [iN_le (by omega) (by omega) (by omega) (by omega)] at c
        have b1 := hD.wa k (by omega)
        have b2 := hD.wb k (by omega)
        have b3 := hD.wm k (by omega)
        obtain ⟨s, hs⟩ : ∃ s : Nat, D 10 k = s := ⟨(D 10 k).toNat, (by omega)⟩
        refine ⟨iN_in (by omega) (by omega) (by omega), ?_⟩
        rw [hs]
        refine c_slotOfS (by omega) hD (by omega) (by omega) (by omega) ?_
        unfold settleF at he
        rw [if_pos (by omega), hs, show ((s : Int)).toNat = s from rfl] at he
        rcases slotOf_rng hD (-1) (b := s) (by omega) with e | ⟨i, e, -, -, hi, -⟩
        · rw [if_pos e] at he
          rw [e, toI_int]
          exact ⟨fun c => absurd rfl c, fun _ => ih (t + 1) (k + 1) D (by omega) (by omega) hD he⟩
        · rw [e, if_neg (by omega), show ((i : Int)).toNat = i from rfl] at he
          rw [e, toI_int, iN_eq (by omega) (by omega) (by omega) (by omega)]
          refine ⟨fun _ => ⟨iN_in (by omega) (by omega) (by omega), iN_in (by omega) (by omega) (by omega), iN_in (by omega) (by omega) (by omega), iN_in (by omega) (by omega) (by omega), ?_⟩, fun c => absurd c (by omega)⟩
          simp only [upd3_setR, setR_same, setR_setR, iN_clN (show (i : Int) < 2147483648 by omega), upd2_c _ _ (show 11 ≠ 6 by decide), iN_small (show -2147483648 ≤ D 9 k by omega) (show D 9 k < 2147483648 by omega), iN_small (show -2147483648 ≤ D 11 k by omega) (show D 11 k < 2147483648 by omega)]
          have hV2 : VB (upd2 (upd2 D 6 i (D 9 k)) 7 i (D 11 k)) := VB_7 (VB_6 hD (by omega) (by omega)) (by omega) (by omega)
          have e8 : upd2 (upd2 D 6 i (D 9 k)) 7 i (D 11 k) 8 = D 8 := by rw [upd2_c _ _ (show 8 ≠ 7 by decide), upd2_c _ _ (show 8 ≠ 6 by decide)]
          refine c_leave (by omega) hV2 (by rw [e8]; omega) ?_
          exact ih (t + 1) k _ (by omega) (by omega) (VB_leave hV2 k (by rw [e8]; omega)) he
  exact key 8 0 0 C rfl (Nat.le_refl 0) hV rfl
