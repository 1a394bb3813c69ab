def wr (z : Int) : Int := (iN z).toInt
theorem wr_id {z : Int} (h1 : -2147483648 ≤ z) (h2 : z < 2147483648) : wr z = z := iN_small h1 h2
theorem wr_rng (z : Int) : -2147483648 ≤ wr z ∧ wr z < 2147483648 := ⟨Int32.le_toInt _, Int32.toInt_lt _⟩
theorem twoB_spec {C : Ch} {a b : Int} (h : twoB C a b = true) : (0 ≤ a ∧ a < C 0 8) ∧ (0 ≤ b ∧ b < C 0 8) ∧ a ≠ b := by
  simp only [twoB, livesB, Bool.and_eq_true, decide_eq_true_eq, Bool.not_eq_true', decide_eq_false_iff_not] at h
  exact ⟨h.1.1, h.2.1.1, h.2.2⟩
theorem livesB_spec {C : Ch} {a : Int} (h : livesB C a = true) : 0 ≤ a ∧ a < C 0 8 := by
  simp only [livesB, Bool.and_eq_true, decide_eq_true_eq] at h
  exact h.1
theorem c_livesS {l : Launch} {E : EnvT} {d : Nat} {K : AV → Mem → Prop} {M : Mem} {r : Nat} {C : Ch} {z : Int} (hd : 1 ≤ d) (hV : VB C) (h1 : -2147483648 ≤ z) (h2 : z < 2147483648) (h : K (.int (iN (b2i (livesB C z))), 0) (setR M r C)) : CT l E d m_Choir_lives [(.ref r, 11), (.int (iN z), 0)] (setR M r C) K :=
  c_lives hd (by rw [setR_same]; exact hV) h1 h2 (by rw [setR_same]; exact h)
theorem c_areTwoS {l : Launch} {E : EnvT} {d : Nat} {K : AV → Mem → Prop} {M : Mem} {r : Nat} {C : Ch} {a b : Int} (hd : 2 ≤ d) (hV : VB C) (h1 : -2147483648 ≤ a) (h2 : a < 2147483648) (h3 : -2147483648 ≤ b) (h4 : b < 2147483648) (h : K (.int (iN (b2i (twoB C a b))), 0) (setR M r C)) : CT l E d m_Choir_areTwo [(.ref r, 11), (.int (iN a), 0), (.int (iN b), 0)] (setR M r C) K :=
  c_areTwo hd (by rw [setR_same]; exact hV) h1 h2 h3 h4 (by rw [setR_same]; exact h)
theorem c_slotOfS {l : Launch} {E : EnvT} {d : Nat} {K : AV → Mem → Prop} {M : Mem} {r : Nat} {C : Ch} {x : Int} {b : Nat} (hd : 1 ≤ d) (hV : VB C) (hb : b < 8) (hx1 : -1 ≤ x) (hx2 : x < 100) (h : K (.int (iN (slotOfC C x b)), 0) (setR M r C)) : CT l E d m_Choir_slotOf [(.ref r, 11), (.int (iN x), 0), (.int (iN b), 0)] (setR M r C) K :=
  c_slotOfV hd (by rw [setR_same]; exact hV) hb hx1 hx2 (by rw [setR_same]; exact h)
theorem c_placeOfS {l : Launch} {E : EnvT} {d : Nat} {K : AV → Mem → Prop} {M : Mem} {r : Nat} {C : Ch} {x y : Int} (hd : 1 ≤ d) (hV : VB C) (hx1 : -1 ≤ x) (hx2 : x < 100) (hy1 : -1 ≤ y) (hy2 : y < 100) (h : K (.int (iN (placeOfC C x y)), 0) (setR M r C)) : CT l E d m_Waiting_placeOf [(.ref r, 19), (.int (iN x), 0), (.int (iN y), 0)] (setR M r C) K :=
  c_placeOf hd (by rw [setR_same]; exact hV) hx1 hx2 hy1 hy2 (by rw [setR_same]; exact h)
theorem c_debtAtNoteS {l : Launch} {E : EnvT} {d : Nat} {K : AV → Mem → Prop} {M : Mem} {r : Nat} {C : Ch} {x : Int} {b : Nat} (hd : 2 ≤ d) (hV : VB C) (hb : b < 8) (hx1 : -1 ≤ x) (hx2 : x < 100) (h : K (.int (iN (debtC C x b)), 0) (setR M r C)) : CT l E d m_Choir_debtAtNote [(.ref r, 11), (.int (iN x), 0), (.int (iN b), 0)] (setR M r C) K :=
  c_debtAtNote hd (by rw [setR_same]; exact hV) hb hx1 hx2 (by rw [setR_same]; exact h)
def takeOffC (C : Ch) (i : Nat) (n : Int) : Ch := if C 7 i - n = 0 then upd2 (upd2 C 7 i (C 7 i - n)) 6 i (-1) else upd2 C 7 i (C 7 i - n)
theorem VB_takeOff {C : Ch} {i : Nat} {n : Int} (hV : VB C) (hi : i < 48) (h1 : 0 ≤ n) (h2 : n ≤ C 7 i) : VB (takeOffC C i n) := by
  have hd := hV.de i hi
  unfold takeOffC
  split
  · exact VB_6 (VB_7 hV (by omega) (by omega)) (by omega) (by omega)
  · exact VB_7 hV (by omega) (by omega)
theorem c_takeOff {l : Launch} {E : EnvT} {d : Nat} {K : AV → Mem → Prop} {M : Mem} {r : Nat} {C : Ch} {i : Nat} {n : Int} (hd : 1 ≤ d) (hV : VB C) (hi : i < 48) (h1 : 0 ≤ n) (h2 : n ≤ C 7 i) (h : K (.null, 0) (setR M r (takeOffC C i n))) : CT l E d m_Choir_takeOff [(.ref r, 11), (.int (iN i), 0), (.int (iN n), 0)] (setR M r C) K := by
  refine CT.of pn_Choir (Nat.le_of_ble_eq_true rfl) ?_
  refine b_Choir_takeOff_0 hd ?_
  have hde := hV.de i hi
  unfold takeOffC at h
  simp only [upd3_setR, setR_same, setR_setR, iN_sub, iN_clN (show (i : Int) < 2147483648 by omega), iN_small (show -2147483648 ≤ C 7 i - n by omega) (show C 7 i - n < 2147483648 by omega), upd2_same, iN_eq0 (show -2147483648 ≤ C 7 i - n by omega) (show C 7 i - n < 2147483648 by omega)]
  refine ⟨iN_in (by omega) (by omega) (by omega), iN_in (by omega) (by omega) (by omega), iN_in (by omega) (by omega) (by omega), fun c => ?_, fun c => ⟨iN_in (by omega) (by omega) (by omega), ?_⟩⟩
  · rw [if_neg c] at h; exact h
  · rw [if_pos c] at h; exact h
def handC (C : Ch) (a b : Nat) (n : Int) : Ch := upd2 (upd2 (upd2 C 2 a (C 2 a - n)) 2 b (upd2 C 2 a (C 2 a - n) 2 b + n)) 0 15 (wr (C 0 15 + n))
theorem hand_b {C : Ch} {a b : Nat} {n : Int} (hV : VB C) (ha : a < 8) (hb : b < 8) (h1 : 0 ≤ n) (h2 : n ≤ C 2 a) (h3 : C 2 b + n ≤ 9999) : 0 ≤ upd2 C 2 a (C 2 a - n) 2 b + n ∧ upd2 C 2 a (C 2 a - n) 2 b + n ≤ 9999 := by
  have p1 := hV.pu a ha
  have p2 := hV.pu b hb
  rw [upd2_at]
  split <;> omega
theorem VB_hand {C : Ch} {a b : Nat} {n : Int} (hV : VB C) (ha : a < 8) (hb : b < 8) (h1 : 0 ≤ n) (h2 : n ≤ C 2 a) (h3 : C 2 b + n ≤ 9999) : VB (handC C a b n) := by
  have p1 := hV.pu a ha
  have hh := hand_b hV ha hb h1 h2 h3
  unfold handC
  exact VB_f15 (VB_2 (VB_2 hV (by omega) (by omega)) (by omega) (by omega)) (wr_rng _).1 (wr_rng _).2
theorem c_handOver {l : Launch} {E : EnvT} {d : Nat} {K : AV → Mem → Prop} {M : Mem} {r : Nat} {C : Ch} {a b : Nat} {n : Int} (hd : 1 ≤ d) (hV : VB C) (ha : a < 8) (hb : b < 8) (h1 : 0 ≤ n) (h2 : n ≤ C 2 a) (h3 : C 2 b + n ≤ 9999) (h : K (.null, 0) (setR M r (handC C a b n))) : CT l E d m_Choir_handOver [(.ref r, 11), (.int (iN a), 0), (.int (iN b), 0), (.int (iN n), 0)] (setR M r C) K := by
  refine CT.of pn_Choir (Nat.le_of_ble_eq_true rfl) ?_
  refine b_Choir_handOver_0 hd ?_
  have p1 := hV.pu a ha
  have hh := hand_b hV ha hb h1 h2 h3
  unfold handC at h
  refine ⟨iN_in (by omega) (by omega) (by omega), iN_in (by omega) (by omega) (by omega), iN_in (by omega) (by omega) (by omega), iN_in (by omega) (by omega) (by omega), ?_⟩
  simp only [upd3_setR, setR_same, setR_setR, iN_sub, iN_add, iN_clN (show (a : Int) < 2147483648 by omega), iN_clN (show (b : Int) < 2147483648 by omega), iN_small (show -2147483648 ≤ C 2 a - n by omega) (show C 2 a - n < 2147483648 by omega), iN_small (show -2147483648 ≤ upd2 C 2 a (C 2 a - n) 2 b + n by omega) (show upd2 C 2 a (C 2 a - n) 2 b + n < 2147483648 by omega), upd2_c _ _ (show 0 ≠ 2 by decide)]
  exact h
theorem c_raise {l : Launch} {E : EnvT} {d : Nat} {K : AV → Mem → Prop} {M : Mem} {r : Nat} {C : Ch} {k : Nat} {n : Int} (hd : 1 ≤ d) (hV : VB C) (hk : k < 8) (h1 : 0 ≤ n) (h2 : n ≤ 9999) (h : K (.int (iN (b2i (decide (C 11 k + n ≤ 999)))), 0) (setR M r (if C 11 k + n ≤ 999 then upd2 C 11 k (C 11 k + n) else C))) : CT l E d m_Waiting_raise [(.ref r, 19), (.int (iN k), 0), (.int (iN n), 0)] (setR M r C) K := by
  refine CT.of pn_Waiting (Nat.le_of_ble_eq_true rfl) ?_
  refine b_Waiting_raise_0 hd ?_
  have p1 := hV.wm k hk
  simp only [upd3_setR, setR_same, setR_setR, iN_add, iN_clN (show (k : Int) < 2147483648 by omega), iN_small (show -2147483648 ≤ C 11 k + n by omega) (show C 11 k + n < 2147483648 by omega), iN_le (show -2147483648 ≤ C 11 k + n by omega) (show C 11 k + n < 2147483648 by omega) (show -2147483648 ≤ (999 : Int) by omega) (show (999 : Int) < 2147483648 by omega)]
  refine ⟨iN_in (by omega) (by omega) (by omega), fun c => ⟨iN_in (by omega) (by omega) (by omega), iN_in (by omega) (by omega) (by omega), o01, ?_⟩, fun c => ⟨z01, ?_⟩⟩
  · rw [if_pos c, decide_eq_true c] at h; exact h
  · rw [if_neg c, decide_eq_false c] at h; exact h
def joinC (C : Ch) (a b : Int) (n : Int) : Ch := upd2 (upd2 (upd2 (upd2 C 9 (C 8 3).toNat a) 10 (C 8 3).toNat b) 11 (C 8 3).toNat n) 8 3 (C 8 3 + 1)
theorem VB_join {C : Ch} {a b n : Int} (hV : VB C) (hw : C 8 3 < 8) (a1 : 0 ≤ a) (a2 : a < 8) (b1 : 0 ≤ b) (b2 : b < 8) (h1 : 0 ≤ n) (h2 : n ≤ 999) : VB (joinC C a b n) := by
  have := hV.w
  exact VB_w (VB_11 (VB_10 (VB_9 hV (by omega) (by omega)) (by omega) (by omega)) (by omega) (by omega)) (by omega) (by omega)
theorem c_join {l : Launch} {E : EnvT} {d : Nat} {K : AV → Mem → Prop} {M : Mem} {r : Nat} {C : Ch} {a b n : Int} (hd : 1 ≤ d) (hV : VB C) (a1 : 0 ≤ a) (a2 : a < 8) (b1 : 0 ≤ b) (b2 : b < 8) (h1 : 0 ≤ n) (h2 : n ≤ 999) (h : K (.int (iN (b2i (decide (C 8 3 < 8)))), 0) (setR M r (if C 8 3 < 8 then joinC C a b n else C))) : CT l E d m_Waiting_join [(.ref r, 19), (.int (iN a), 0), (.int (iN b), 0), (.int (iN n), 0)] (setR M r C) K := by
  refine CT.of pn_Waiting (Nat.le_of_ble_eq_true rfl) ?_
  refine b_Waiting_join_0 hd ?_
  have p1 := hV.w
  have hcl : (iN (C 8 3)).toNatClampNeg = (C 8 3).toNat := iN_cl (by omega) (by omega)
  simp only [upd3_setR, setR_same, setR_setR, hcl, upd2_c _ _ (show 8 ≠ 9 by decide), upd2_c _ _ (show 8 ≠ 10 by decide), upd2_c _ _ (show 8 ≠ 11 by decide), iN_add, iN_small (show -2147483648 ≤ C 8 3 + 1 by omega) (show C 8 3 + 1 < 2147483648 by omega), iN_lt (show -2147483648 ≤ C 8 3 by omega) (show C 8 3 < 2147483648 by omega) (show -2147483648 ≤ (8 : Int) by omega) (show (8 : Int) < 2147483648 by omega), iN_small (show -2147483648 ≤ a by omega) (show a < 2147483648 by omega), iN_small (show -2147483648 ≤ b by omega) (show b < 2147483648 by omega), iN_small (show -2147483648 ≤ n by omega) (show n < 2147483648 by omega)]
  refine ⟨fun c => ⟨iN_in (by omega) (by omega) (by omega), iN_in (by omega) (by omega) (by omega), iN_in (by omega) (by omega) (by omega), o01, ?_⟩, fun c => ⟨z01, ?_⟩⟩
  · rw [if_pos c, decide_eq_true c] at h; exact h
  · rw [if_neg c, decide_eq_false c] at h; exact h
def shC (C : Ch) (k j : Nat) : Ch := fun c i => if (c = 9 ∨ c = 10 ∨ c = 11) ∧ k ≤ i ∧ i < j then C c (i + 1) else C c i
def leaveC (C : Ch) (k : Nat) : Ch := upd2 (shC C k ((C 8 3).toNat - 1)) 8 3 (C 8 3 - 1)
theorem shC_0 (C : Ch) (k j : Nat) (h : j ≤ k) : shC C k j = C := by
  funext c i
  unfold shC
  rw [if_neg]
  omega
theorem shC_w (C : Ch) (k j : Nat) {c : Nat} (h : ¬ (c = 9 ∨ c = 10 ∨ c = 11)) : shC C k j c = C c := by
  funext i
  unfold shC
  rw [if_neg (fun q => h q.1)]
theorem shC_hi (C : Ch) (k j c i : Nat) (h : j ≤ i) : shC C k j c i = C c i := by
  unfold shC
  rw [if_neg]
  omega
theorem shC_step (C : Ch) (k j : Nat) (hk : k ≤ j) : upd2 (upd2 (upd2 (shC C k j) 9 j (C 9 (j + 1))) 10 j (C 10 (j + 1))) 11 j (C 11 (j + 1)) = shC C k (j + 1) := by
  funext c i
  unfold upd2 shC
  by_cases hi : i = j
  · subst hi
    by_cases h9 : c = 9
    · subst h9; simp [hk]
    · by_cases h10 : c = 10
      · subst h10; simp [hk]
      · by_cases h11 : c = 11
        · subst h11; simp [hk]
        · simp [h9, h10, h11]
  · simp only [hi, and_false, if_false]
    congr 1
    apply propext
    omega
theorem VB_sh {C : Ch} (hV : VB C) (k : Nat) {j : Nat} (hj : j ≤ 7) : VB (shC C k j) := by
  have e : ∀ c, ¬ (c = 9 ∨ c = 10 ∨ c = 11) → shC C k j c = C c := fun c hc => shC_w C k j hc
  obtain ⟨a1, a2, a3, a4, a5, a6, a7, a8, a9, a10, a11, a12, a13, a14, a15⟩ := hV
  refine ⟨by rw [e 0 (by omega)]; exact a1, by rw [e 0 (by omega)]; exact a2, by rw [e 0 (by omega)]; exact a3, by rw [e 0 (by omega)]; exact a4, by rw [e 0 (by omega)]; exact a5, by rw [e 2 (by omega)]; exact a6, by rw [e 3 (by omega)]; exact a7, by rw [e 4 (by omega)]; exact a8, by rw [e 5 (by omega)]; exact a9, by rw [e 6 (by omega)]; exact a10, by rw [e 7 (by omega)]; exact a11, by rw [e 8 (by omega)]; exact a12, fun i hi => ?_, fun i hi => ?_, fun i hi => ?_⟩
  · unfold shC; split
    · exact a13 (i + 1) (by omega)
    · exact a13 i hi
  · unfold shC; split
    · exact a14 (i + 1) (by omega)
    · exact a14 i hi
  · unfold shC; split
    · exact a15 (i + 1) (by omega)
    · exact a15 i hi
theorem VB_leave {C : Ch} (hV : VB C) (k : Nat) (hw : 1 ≤ C 8 3) : VB (leaveC C k) := by
  have := hV.w
  exact VB_w (VB_sh hV k (by omega)) (by omega) (by omega)
theorem c_leave {l : Launch} {E : EnvT} {d : Nat} {K : AV → Mem → Prop} {M : Mem} {r : Nat} {C : Ch} {k : Nat} (hd : 1 ≤ d) (hV : VB C) (hk : (k : Int) < C 8 3) (h : K (.null, 0) (setR M r (leaveC C k))) : CT l E d m_Waiting_leave [(.ref r, 19), (.int (iN k), 0)] (setR M r C) K := by
  refine CT.of pn_Waiting (Nat.le_of_ble_eq_true rfl) ?_
  refine b_Waiting_leave_0 hd ?_
  have hw := hV.w
  obtain ⟨n, hn⟩ : ∃ n : Nat, C 8 3 = n := ⟨(C 8 3).toNat, (by omega)⟩
  unfold leaveC at h
  rw [hn] at h
  rw [show ((n : Int)).toNat - 1 = n - 1 from rfl] at h
  have key : ∀ m j : Nat, k ≤ j → j + m = n - 1 → G l E d m_Waiting_leave 2 [(0, (.ref r, 19)), (2, (.int (iN j), 0))] [] (setR M r (shC C k j)) K := by
    intro m
    induction m with
    | zero =>
      intro j hkj hj
      have hj' : j = n - 1 := (by omega)
      refine b_Waiting_leave_2 hd ?_
      simp only [upd3_setR, setR_same, setR_setR, shC_w C k j (show ¬ (8 = 9 ∨ 8 = 10 ∨ 8 = 11) by omega), hn, iN_add, iN_sub]
      refine ⟨fun _ => ?_, fun c => absurd ((iN_le (by omega) (by omega) (by omega) (by omega)).mpr (by omega)) c⟩
      rw [iN_small (by omega) (by omega), hj']
      exact h
    | succ m ih =>
      intro j hkj hj
      refine b_Waiting_leave_2 hd ?_
      have w1 := hV.wa (j + 1) (by omega)
      have w2 := hV.wb (j + 1) (by omega)
      have w3 := hV.wm (j + 1) (by omega)
      have e1 : (iN ((j : Int) + 1)).toNatClampNeg = j + 1 := iN_clN (k := j + 1) (by omega)
      simp only [upd3_setR, setR_same, setR_setR, shC_w C k j (show ¬ (8 = 9 ∨ 8 = 10 ∨ 8 = 11) by omega), hn, iN_add, e1, iN_clN (show (j : Int) < 2147483648 by omega)]
      refine ⟨fun c => absurd ((iN_le (by omega) (by omega) (by omega) (by omega)).mp c) (by omega), fun _ => ⟨iN_in (by omega) (by omega) (by omega), iN_in (by omega) (by omega) (by omega), iN_in (by omega) (by omega) (by omega), iN_in (by omega) (by omega) (by omega), iN_in (by omega) (by omega) (by omega), iN_in (by omega) (by omega) (by omega), ?_⟩⟩
      simp only [upd2_c _ _ (show 10 ≠ 9 by decide), upd2_c _ _ (show 11 ≠ 9 by decide), upd2_c _ _ (show 11 ≠ 10 by decide), shC_hi C k j _ (j + 1) (Nat.le_succ j), iN_small (show -2147483648 ≤ C 9 (j + 1) by omega) (show C 9 (j + 1) < 2147483648 by omega), iN_small (show -2147483648 ≤ C 10 (j + 1) by omega) (show C 10 (j + 1) < 2147483648 by omega), iN_small (show -2147483648 ≤ C 11 (j + 1) by omega) (show C 11 (j + 1) < 2147483648 by omega)]
      rw [shC_step C k j hkj]
      exact ih (j + 1) (by omega) (by omega)
  have k0 := key (n - 1 - k) k (Nat.le_refl k) (by omega)
  rw [shC_0 C k k (Nat.le_refl k)] at k0
  exact k0
