theorem takeOffC_c {C : Ch} {i : Nat} {n : Int} {c : Nat} (h6 : c ≠ 6) (h7 : c ≠ 7) : takeOffC C i n c = C c := by
  unfold takeOffC
  split
  · rw [upd2_c _ _ h6, upd2_c _ _ h7]
  · rw [upd2_c _ _ h7]
theorem takeOffC_7 {C : Ch} {i j : Nat} {n : Int} (h : j ≠ i) : takeOffC C i n 7 j = C 7 j := by
  unfold takeOffC
  split
  · rw [upd2_c _ _ (show 7 ≠ 6 by decide), upd2_k _ _ h]
  · rw [upd2_k _ _ h]
theorem handC_c {C : Ch} {a b : Nat} {n : Int} {c : Nat} (h0 : c ≠ 0) (h2 : c ≠ 2) : handC C a b n c = C c := by
  unfold handC
  rw [upd2_c _ _ h0, upd2_c _ _ h2, upd2_c _ _ h2]
theorem leaveC_c {C : Ch} {k c : Nat} (h : c ≠ 8 ∧ c ≠ 9 ∧ c ≠ 10 ∧ c ≠ 11) : leaveC C k c = C c := by
  unfold leaveC
  rw [upd2_c _ _ h.1, shC_w _ _ _ (by omega)]
theorem settleF_c {c : Nat} (h : c ≠ 6 ∧ c ≠ 7 ∧ c ≠ 8 ∧ c ≠ 9 ∧ c ≠ 10 ∧ c ≠ 11) : ∀ (f k : Nat) (C : Ch), settleF f k C c = C c
  | 0, _, _ => rfl
  | f + 1, k, C => by
    unfold settleF
    split
    · split
      · exact settleF_c h f (k + 1) C
      · rw [settleF_c h f k, leaveC_c h.2.2, upd2_c _ _ h.2.1, upd2_c _ _ h.1]
    · rfl
theorem settleC_c {c : Nat} {C : Ch} (h : c ≠ 6 ∧ c ≠ 7 ∧ c ≠ 8 ∧ c ≠ 9 ∧ c ≠ 10 ∧ c ≠ 11) : settleC C c = C c := settleF_c h 8 0 C
def payC (C : Ch) (a b : Int) (n : Int) : Bool × Ch :=
  if twoB C a b = true ∧ slotOfC C a b.toNat ≠ -1 ∧ n ≤ C 7 (slotOfC C a b.toNat).toNat ∧ n ≤ C 2 a.toNat ∧ C 2 b.toNat + n ≤ 9999 then
    (true, settleC (takeOffC (handC C a.toNat b.toNat n) (slotOfC C a b.toNat).toNat n)) else (false, C)
theorem c_payCoins {l : Launch} {E : EnvT} {d : Nat} {K : AV → Mem → Prop} {M : Mem} {r : Nat} {C : Ch} {a b : Int} {n : Int} (hd : 3 ≤ d) (hV : VB C) (a1 : -2147483648 ≤ a) (a2 : a < 2147483648) (b1 : -2147483648 ≤ b) (b2 : b < 2147483648) (h1 : 0 ≤ n) (h2 : n ≤ 9999) (h : K (.int (iN (b2i (payC C a b n).1)), 0) (setR M r (payC C a b n).2)) : CT l E d m_Choir_payCoins [(.ref r, 11), (.int (iN a), 0), (.int (iN b), 0), (.int (iN n), 0)] (setR M r C) K := by
  refine CT.of pn_Choir (Nat.le_of_ble_eq_true rfl) ?_
  refine b_Choir_payCoins_0 (by omega) (c_areTwoS (by omega) hV a1 a2 b1 b2 ?_)
  unfold payC at h
  rw [toI_int, b2i_z]
  refine ⟨fun c => ?_, fun c => ⟨z01, ?_⟩⟩
  · rw [Bool.not_eq_false] at c
    obtain ⟨t1, t2, t3⟩ := twoB_spec c
    have hn := hV.n
    obtain ⟨x, rfl⟩ : ∃ x : Nat, a = x := ⟨a.toNat, (by omega)⟩
    obtain ⟨y, rfl⟩ : ∃ y : Nat, b = y := ⟨b.toNat, (by omega)⟩
    have p1 := hV.pu x (by omega)
    have p2 := hV.pu y (by omega)
    simp only [show ((x : Int)).toNat = x from rfl, show ((y : Int)).toNat = y from rfl] at h
    refine c_slotOfS (by omega) hV (by omega) (by omega) (by omega) ?_
    rcases slotOf_rng hV x (b := y) (by omega) with e | ⟨i, e, -, -, hi, -⟩
    · rw [e, toI_int]
      refine ⟨fun _ => ⟨z01, ?_⟩, fun c => absurd rfl c⟩
      rw [if_neg (by simp [e])] at h; exact h
    · simp only [e, show ((i : Int)).toNat = i from rfl] at h
      have hde := hV.de i hi
      simp only [e, toI_int, setR_same, iN_add, iN_clN (show (x : Int) < 2147483648 by omega), iN_clN (show (y : Int) < 2147483648 by omega), iN_clN (show (i : Int) < 2147483648 by omega)]
      rw [iN_eq (by omega) (by omega) (by omega) (by omega), iN_lt (by omega) (by omega) (by omega) (by omega), iN_lt (by omega) (by omega) (by omega) (by omega), iN_le (by omega) (by omega) (by omega) (by omega)]
      refine ⟨fun c => absurd c (by omega), fun _ => ⟨iN_in (by omega) (by omega) (by omega), fun c2 => ⟨z01, ?_⟩, fun c2 => ⟨iN_in (by omega) (by omega) (by omega), fun c3 => ⟨z01, ?_⟩, fun c3 => ⟨iN_in (by omega) (by omega) (by omega), fun c4 => ?_, fun c4 => ⟨z01, ?_⟩⟩⟩⟩⟩
      · rw [if_neg (by omega)] at h; exact h
      · rw [if_neg (by omega)] at h; exact h
      · rw [if_pos ⟨c, by omega, by omega, by omega, by omega⟩] at h
        have hV2 := VB_hand (a := x) (b := y) (n := n) hV (by omega) (by omega) h1 (by omega) (by omega)
        have e7 : handC C x y n 7 = C 7 := handC_c (by decide) (by decide)
        refine c_handOver (by omega) hV (by omega) (by omega) h1 (by omega) (by omega) (c_takeOff (by omega) hV2 hi h1 (by rw [e7]; omega) (c_settle (by omega) (VB_takeOff hV2 hi h1 (by rw [e7]; omega)) ⟨o01, h⟩))
      · rw [if_neg (by omega)] at h; exact h
  · rw [if_neg (by simp [c])] at h; exact h
def netC (C : Ch) (a b : Int) : Int × Ch :=
  if twoB C a b = true ∧ slotOfC C a b.toNat ≠ -1 ∧ slotOfC C b a.toNat ≠ -1 then
    (min (C 7 (slotOfC C a b.toNat).toNat) (C 7 (slotOfC C b a.toNat).toNat), settleC (takeOffC (takeOffC C (slotOfC C a b.toNat).toNat (min (C 7 (slotOfC C a b.toNat).toNat) (C 7 (slotOfC C b a.toNat).toNat))) (slotOfC C b a.toNat).toNat (min (C 7 (slotOfC C a b.toNat).toNat) (C 7 (slotOfC C b a.toNat).toNat))))
  else (0, C)
theorem net_two {C : Ch} (hV : VB C) {x y i j : Nat} (hx : x < 8) (hy : y < 8) (hne : x ≠ y) (hi1 : 6 * y ≤ i) (hi2 : i < 6 * y + (C 4 y).toNat) (hj1 : 6 * x ≤ j) (hj2 : j < 6 * x + (C 4 x).toNat) : j ≠ i := by
  have l1 := hV.le x hx
  have l2 := hV.le y hy
  omega
theorem c_netTwo {l : Launch} {E : EnvT} {d : Nat} {K : AV → Mem → Prop} {M : Mem} {r : Nat} {C : Ch} {a b : Int} (hd : 3 ≤ d) (hV : VB C) (a1 : -2147483648 ≤ a) (a2 : a < 2147483648) (b1 : -2147483648 ≤ b) (b2 : b < 2147483648) (h : K (.int (iN (netC C a b).1), 0) (setR M r (netC C a b).2)) : CT l E d m_Choir_netTwo [(.ref r, 11), (.int (iN a), 0), (.int (iN b), 0)] (setR M r C) K := by
  refine CT.of pn_Choir (Nat.le_of_ble_eq_true rfl) ?_
  refine b_Choir_netTwo_0 (by omega) (c_areTwoS (by omega) hV a1 a2 b1 b2 ?_)
  unfold netC at h
  rw [toI_int, b2i_z]
  refine ⟨fun c => ?_, fun c => ?_⟩
  · rw [Bool.not_eq_false] at c
    obtain ⟨t1, t2, t3⟩ := twoB_spec c
    have hn := hV.n
    obtain ⟨x, rfl⟩ : ∃ x : Nat, a = x := ⟨a.toNat, (by omega)⟩
    obtain ⟨y, rfl⟩ : ∃ y : Nat, b = y := ⟨b.toNat, (by omega)⟩
    simp only [show ((x : Int)).toNat = x from rfl, show ((y : Int)).toNat = y from rfl] at h
    refine c_slotOfS (by omega) hV (by omega) (by omega) (by omega) (c_slotOfS (by omega) hV (by omega) (by omega) (by omega) ?_)
    rcases slotOf_rng hV x (b := y) (by omega) with e | ⟨i, e, i1, i2, hi, -⟩
    · rw [e, toI_int]
      refine ⟨fun _ => ?_, fun c => absurd rfl c⟩
      rw [if_neg (by simp [e])] at h; exact h
    · rcases slotOf_rng hV y (b := x) (by omega) with e2 | ⟨j, e2, j1, j2, hj, -⟩
      · simp only [e, e2, toI_int]
        rw [iN_eq (by omega) (by omega) (by omega) (by omega)]
        refine ⟨fun c => absurd c (by omega), fun _ => ⟨fun c => absurd trivial c, fun _ => ?_⟩⟩
        rw [if_neg (by simp [e2])] at h; exact h
      · rw [if_pos ⟨c, by omega, by omega⟩] at h
        simp only [e, e2, show ((i : Int)).toNat = i from rfl, show ((j : Int)).toNat = j from rfl] at h
        have d1 := hV.de i hi
        have d2 := hV.de j hj
        have hji := net_two hV (x := x) (y := y) (by omega) (by omega) (fun q => t3 (by rw [q])) i1 i2 j1 j2
        simp only [e, e2, toI_int, setR_same, iN_clN (show (i : Int) < 2147483648 by omega), iN_clN (show (j : Int) < 2147483648 by omega)]
        rw [iN_eq (by omega) (by omega) (by omega) (by omega), iN_eq (by omega) (by omega) (by omega) (by omega)]
        refine ⟨fun c => absurd c (by omega), fun _ => ⟨fun _ => ⟨iN_in (by omega) (by omega) (by omega), iN_in (by omega) (by omega) (by omega), c_min (by omega) (by omega) (by omega) (by omega) (by omega) ?_⟩, fun c => absurd c (by omega)⟩⟩
        rw [toI_int]
        have hV2 := VB_takeOff (n := min (C 7 i) (C 7 j)) hV hi (by omega) (by omega)
        have e7 : takeOffC C i (min (C 7 i) (C 7 j)) 7 j = C 7 j := takeOffC_7 hji
        exact c_takeOff (by omega) hV hi (by omega) (by omega) (c_takeOff (by omega) hV2 hj (by omega) (by rw [e7]; omega) (c_settle (by omega) (VB_takeOff hV2 hj (by omega) (by rw [e7]; omega)) h))
  · rw [if_neg (by simp [c])] at h; exact h
theorem VB_net {C : Ch} {a b : Int} (hV : VB C) : VB (netC C a b).2 := by
  unfold netC
  split
  · rename_i h
    obtain ⟨t1, t2, t3⟩ := twoB_spec h.1
    have hn := hV.n
    rcases slotOf_rng hV a (b := b.toNat) (by omega) with e | ⟨i, e, i1, i2, hi, -⟩
    · exact absurd e h.2.1
    · rcases slotOf_rng hV b (b := a.toNat) (by omega) with e2 | ⟨j, e2, j1, j2, hj, -⟩
      · exact absurd e2 h.2.2
      · simp only [e, e2, show ((i : Int)).toNat = i from rfl, show ((j : Int)).toNat = j from rfl]
        have d1 := hV.de i hi
        have d2 := hV.de j hj
        have hji := net_two hV (x := a.toNat) (y := b.toNat) (by omega) (by omega) (by omega) i1 i2 j1 j2
        exact VB_settle (VB_takeOff (VB_takeOff hV hi (by omega) (by omega)) hj (by omega) (by rw [takeOffC_7 hji]; omega))
  · exact hV
theorem VB_pay {C : Ch} {a b n : Int} (hV : VB C) (h1 : 0 ≤ n) : VB (payC C a b n).2 := by
  unfold payC
  split
  · rename_i h
    obtain ⟨t1, t2, t3⟩ := twoB_spec h.1
    have hn := hV.n
    rcases slotOf_rng hV a (b := b.toNat) (by omega) with e | ⟨i, e, i1, i2, hi, -⟩
    · exact absurd e h.2.1
    · have h3 := h.2.2
      simp only [e, show ((i : Int)).toNat = i from rfl] at h3 ⊢
      exact VB_settle (VB_takeOff (VB_hand hV (by omega) (by omega) h1 h3.2.1 h3.2.2) hi h1 (by rw [handC_c (by decide) (by decide)]; exact h3.1))
  · exact hV
theorem netC_c {C : Ch} {a b : Int} {c : Nat} (h : c ≠ 6 ∧ c ≠ 7 ∧ c ≠ 8 ∧ c ≠ 9 ∧ c ≠ 10 ∧ c ≠ 11) : (netC C a b).2 c = C c := by
  unfold netC
  split
  · show settleC _ c = _
    rw [settleC_c h, takeOffC_c h.1 h.2.1, takeOffC_c h.1 h.2.1]
  · rfl
def netRow (a : Nat) : Nat → Nat → Int × Ch → Int × Ch
  | 0, _, q => q
  | m + 1, b, q => netRow a m (b + 1) (q.1 + (netC q.2 a b).1, (netC q.2 a b).2)
def netAllF (n : Nat) : Nat → Nat → Int × Ch → Int × Ch
  | 0, _, q => q
  | m + 1, a, q => netAllF n m (a + 1) (netRow a (n - (a + 1)) (a + 1) q)
def netAllC (C : Ch) : Int × Ch := netAllF (C 0 8).toNat (C 0 8).toNat 0 (0, C)
theorem VB_netRow (a : Nat) : ∀ (m b : Nat) {q : Int × Ch}, VB q.2 → VB (netRow a m b q).2
  | 0, _, _, h => h
  | m + 1, b, q, h => VB_netRow a m (b + 1) (VB_net h)
theorem netRow_c (a : Nat) {c : Nat} (h : c ≠ 6 ∧ c ≠ 7 ∧ c ≠ 8 ∧ c ≠ 9 ∧ c ≠ 10 ∧ c ≠ 11) : ∀ (m b : Nat) (q : Int × Ch), (netRow a m b q).2 c = q.2 c
  | 0, _, _ => rfl
  | m + 1, b, q => by
    show (netRow a m (b + 1) _).2 c = _
    rw [netRow_c a h m (b + 1)]
    exact netC_c h
theorem c_netAll {l : Launch} {E : EnvT} {d : Nat} {K : AV → Mem → Prop} {M : Mem} {r : Nat} {C : Ch} (hd : 4 ≤ d) (hV : VB C) (h : K (.int (iN (netAllC C).1), 0) (setR M r (netAllC C).2)) : CT l E d m_Choir_netAll [(.ref r, 11)] (setR M r C) K := by
  refine CT.of pn_Choir (Nat.le_of_ble_eq_true rfl) ?_
  refine b_Choir_netAll_0 (by omega) ?_
  have hn0 := hV.n
  obtain ⟨n, hn⟩ : ∃ n : Nat, C 0 8 = n := ⟨(C 0 8).toNat, (by omega)⟩
  unfold netAllC at h
  rw [hn, show ((n : Int)).toNat = n from rfl] at h
  have key : ∀ (m a : Nat) (q : Int × Ch), a + m = n → VB q.2 → q.2 0 8 = n → netAllF n n 0 (0, C) = netAllF n m a q → G l E d m_Choir_netAll 4 [(0, (.ref r, 11)), (1, (.int (iN q.1), 0)), (2, (.int (iN a), 0))] [] (setR M r q.2) K := by
    intro m
    induction m with
    | zero =>
      intro a q ha hq hq8 he
      refine b_Choir_netAll_4 (by omega) ?_
      rw [setR_same, hq8]
      rw [he] at h
      exact ⟨fun _ => h, fun c => absurd ((iN_le (by omega) (by omega) (by omega) (by omega)).mpr (by omega)) c⟩
    | succ m ih =>
      intro a q ha hq hq8 he
      refine b_Choir_netAll_4 (by omega) ?_
      rw [setR_same, hq8]
      refine ⟨fun c => absurd ((iN_le (by omega) (by omega) (by omega) (by omega)).mp c) (by omega), fun _ => ?_⟩
      have key2 : ∀ (m2 b : Nat) (q2 : Int × Ch), b + m2 = n → VB q2.2 → q2.2 0 8 = n → netRow a (n - (a + 1)) (a + 1) q = netRow a m2 b q2 → G l E d m_Choir_netAll 16 [(0, (.ref r, 11)), (1, (.int (iN q2.1), 0)), (2, (.int (iN a), 0)), (3, (.int (iN b), 0))] [] (setR M r q2.2) K := by
        intro m2
        induction m2 with
        | zero =>
          intro b q2 hb hq2 hq28 he2
          refine b_Choir_netAll_16 (by omega) ?_
          rw [setR_same, hq28]
          refine ⟨fun _ => ?_, fun c => absurd ((iN_le (by omega) (by omega) (by omega) (by omega)).mpr (by omega)) c⟩
          rw [iN_add]
          refine ih (a + 1) q2 (by omega) hq2 hq28 ?_
          rw [he]
          show netAllF n m (a + 1) (netRow a (n - (a + 1)) (a + 1) q) = _
          rw [he2]
          rfl
        | succ m2 ih2 =>
          intro b q2 hb hq2 hq28 he2
          refine b_Choir_netAll_16 (by omega) ?_
          rw [setR_same, hq28]
          refine ⟨fun c => absurd ((iN_le (by omega) (by omega) (by omega) (by omega)).mp c) (by omega), fun _ => c_netTwo (by omega) hq2 (by omega) (by omega) (by omega) (by omega) ?_⟩
          rw [toI_int, iN_add, iN_add]
          refine ih2 (b + 1) (q2.1 + (netC q2.2 a b).1, (netC q2.2 a b).2) (by omega) (VB_net hq2) ?_ he2
          show (netC q2.2 a b).2 0 8 = n
          rw [netC_c (by omega)]
          exact hq28
      rw [iN_add]
      exact key2 (n - (a + 1)) (a + 1) q (by omega) hq hq8 rfl
  exact key n 0 (0, C) (by omega) hV hn rfl
