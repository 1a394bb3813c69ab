theorem fndF_congr {p q : Nat → Bool} : ∀ {m i : Nat}, (∀ x, i ≤ x → x < i + m → p x = q x) → fndF p i m = fndF q i m
  | 0, _, _ => rfl
  | m + 1, i, h => by
    unfold fndF
    rw [h i (by omega) (by omega), fndF_congr (m := m) (i := i + 1) (fun x x1 x2 => h x (by omega) (by omega))]
theorem stands_take {C : Ch} {i : Nat} {x n : Int} (h : C 6 i = x) : upd2 (upd2 C 6 i (if C 7 i - n = 0 then -1 else x)) 7 i (C 7 i - n) = takeOffC C i n := by
  unfold takeOffC
  split
  · rw [upd2_comm _ _ _ _ _ (by decide)]
  · rw [← h, upd2_id]
theorem c_gets {l : Launch} {E : EnvT} {d : Nat} {K : AV → Mem → Prop} {M : Mem} {Z : Ch} {A : Nat → Int} {s : Nat} {p n : Int} (hd : 2 ≤ d) (hs : s < 8) (hp : A (0 + 6 + 8 * s + 0) = p) (p1 : 0 ≤ p + n) (p2 : p + n ≤ 99999) (h : K (.null, 0) (zA M Z (updP A (0 + 6 + 8 * s + 0) (p + n)))) : CT l E d m_Mod_gets [(.ref 24, 41), (.int (iN s), 0), (.int (iN 0), 0), (.int (iN n), 0)] (zA M Z A) K := by
  refine CT.of pn_Mod (Nat.le_of_ble_eq_true rfl) ?_
  refine b_Mod_gets_0 (by omega) (c_singerRow (by omega) ?_)
  simp only [toI_int, iN_add, zA_1]
  rw [clA (j := 0 + 6 + 8 * s + 0) (by omega) (by omega), hp, iN_small (by omega) (by omega), zA_u]
  exact ⟨inA (by omega) (by omega), inA (by omega) (by omega), h⟩
theorem c_goesOff {l : Launch} {E : EnvT} {d : Nat} {K : AV → Mem → Prop} {M : Mem} {C Z : Ch} {A : Nat → Int} {b i : Nat} {x n : Int} (hd : 4 ≤ d) (hB : Z 0 21 = 0) (hV : VB C) (hR : RR C A 0) (hb : (b : Int) < C 0 8) (x1 : 0 ≤ x) (x2 : x < 8) (hi : slotOfC C x b = i) (n1 : 0 ≤ n) (n2 : n ≤ C 7 i) (h : ∀ A', RR (takeOffC C i n) A' 0 → FrA 0 A A' → K (.null, 0) (zA M Z A')) : CT l E d m_Mod_goesOff [(.ref 24, 41), (.int (iN x), 0), (.int (iN b), 0), (.int (iN n), 0)] (zA M Z A) K := by
  refine CT.of pn_Mod (Nat.le_of_ble_eq_true rfl) ?_
  have hn := hV.n
  refine b_Mod_goesOff_0 (by omega) (c_noteOf (B := 0) (by omega) hB (by omega) hV hR hb (by omega) x2 ?_)
  rw [toI_int]
  rcases noteOf_rng hV x (b := b) (by omega) with e | ⟨k, e, k1, k2, k3⟩
  · rw [slot_note1 e] at hi; omega
  · rw [slot_note e] at hi
    have hi : i = 6 * b + k := (by omega)
    subst hi
    have de := hV.de (6 * b + k) (by omega)
    rw [e]
    refine c_debtAt (B := 0) (by omega) hB (by omega) (by omega) (by omega) ?_
    rw [(hR.2.2.2.1 (6 * b + k) (by omega)).2, toI_int, iN_sub]
    refine c_stands (B := 0) (by omega) hB (by omega) (by omega) (by omega) (by omega) x2 (by omega) (by omega) (h _ ?_ (FrA_stands (by omega)))
    have r := RR_stands (i := 6 * b + k) (who := x) (v := C 7 (6 * b + k) - n) hV hR (by omega) (by omega) x2
    rw [stands_take k3] at r
    exact r
theorem hand_take {C : Ch} {a b i : Nat} {n : Int} : upd2 (upd2 (upd2 (takeOffC C i n) 2 a (C 2 a - n)) 2 b (upd2 C 2 a (C 2 a - n) 2 b + n)) 0 15 (wr (C 0 15 + n)) = takeOffC (handC C a b n) i n := by
  have e7 : handC C a b n 7 = C 7 := handC_c (by decide) (by decide)
  unfold takeOffC
  rw [e7]
  unfold handC
  split
  · simp (disch := decide) only [upd2_comm _ _ _ _ _ (show 6 ≠ 2 by decide), upd2_comm _ _ _ _ _ (show 7 ≠ 2 by decide), upd2_comm _ _ _ _ _ (show 6 ≠ 0 by decide), upd2_comm _ _ _ _ _ (show 7 ≠ 0 by decide)]
  · simp (disch := decide) only [upd2_comm _ _ _ _ _ (show 7 ≠ 2 by decide), upd2_comm _ _ _ _ _ (show 7 ≠ 0 by decide)]
theorem c_paysSome {l : Launch} {E : EnvT} {d : Nat} {K : AV → Mem → Prop} {M : Mem} {C Z : Ch} {A : Nat → Int} {a b i : Nat} {n : Int} (hd : 5 ≤ d) (hB : Z 0 21 = 0) (hV : VB C) (hR : RR C A 0) (ha : (a : Int) < C 0 8) (hb : (b : Int) < C 0 8) (hi : slotOfC C a b = i) (i8 : i < 48) (n1 : 0 ≤ n) (n2 : n ≤ C 7 i) (n3 : n ≤ C 2 a) (n4 : C 2 b + n ≤ 9999) (h : ∀ A', RR (takeOffC (handC C a b n) i n) A' 0 → FrA 0 A A' → K (.null, 0) (zA M Z A')) : CT l E d m_Mod_paysSome [(.ref 24, 41), (.int (iN a), 0), (.int (iN b), 0), (.int (iN n), 0)] (zA M Z A) K := by
  refine CT.of pn_Mod (Nat.le_of_ble_eq_true rfl) ?_
  have hn := hV.n
  have pa := hV.pu a (by omega)
  have pb := hV.pu b (by omega)
  have pd := hV.paid
  refine b_Mod_paysSome_0 (by omega) (c_goesOff (by omega) hB hV hR hb (by omega) (by omega) hi n1 n2 (fun A1 r1 f1 => ?_))
  have v1 : VB (takeOffC C i n) := VB_takeOff hV i8 n1 n2
  have e0 : takeOffC C i n 0 = C 0 := takeOffC_c (by decide) (by decide)
  have e2 : takeOffC C i n 2 = C 2 := takeOffC_c (by decide) (by decide)
  have q1 := (r1.2.1 a (by rw [e0]; exact ha)).1
  rw [e2] at q1
  rw [iN_neg]
  refine c_gets (by omega) (by omega) q1 (by omega) (by omega) ?_
  have r2 := RR_2 (t := a) (v := C 2 a - n) v1 r1 (by omega)
  have v2 := VB_2 (k := a) (v := C 2 a - n) v1 (by omega) (by omega)
  rw [show C 2 a + -n = C 2 a - n by omega]
  have q2 := (r2.2.1 b (by rw [upd2_c _ _ (by decide), e0]; exact hb)).1
  have e3 : upd2 (takeOffC C i n) 2 a (C 2 a - n) 2 b = upd2 C 2 a (C 2 a - n) 2 b := by rw [upd2_at, upd2_at, e2]
  rw [e3] at q2
  have hb2 := hand_b hV (a := a) (b := b) (by omega) (by omega) n1 n3 n4
  refine c_gets (by omega) (by omega) q2 (by omega) (by omega) ?_
  have r3 := RR_2 (t := b) (v := upd2 C 2 a (C 2 a - n) 2 b + n) v2 r2 (by omega)
  have v3 := VB_2 (k := b) (v := upd2 C 2 a (C 2 a - n) 2 b + n) v2 (by omega) (by omega)
  have q3 := r3.1.2.2.2.1
  rw [upd2_c _ _ (show 0 ≠ 2 by decide), upd2_c _ _ (show 0 ≠ 2 by decide), e0] at q3
  simp only [zA_1, zA_u]
  rw [clA (z := 3) (j := 0 + 3) (by omega) (by omega), q3, iN_add]
  have r4 := RR_f (j := 15) (v := wr (C 0 15 + n)) v3 r3 (by omega) (by omega)
  rw [hand_take] at r4
  exact ⟨inA (by omega) (by omega), inA (by omega) (by omega), h _ r4 (((f1.u _ (by omega) (by omega)).u _ (by omega) (by omega)).u _ (by omega) (by omega))⟩
theorem debtC_slot {C : Ch} {x : Int} {b i : Nat} (h : slotOfC C x b = i) : debtC C x b = C 7 i := by
  unfold debtC
  rw [h, if_neg (by omega)]
  rfl
theorem debtC_none {C : Ch} {x : Int} {b : Nat} (h : slotOfC C x b = -1) : debtC C x b = 0 := by
  unfold debtC
  rw [h, if_pos rfl]
theorem c_pays {l : Launch} {E : EnvT} {d : Nat} {K : AV → Mem → Prop} {M : Mem} {C Z : Ch} {A : Nat → Int} {a b : Nat} {n : Int} (hd : 6 ≤ d) (hB : Z 0 21 = 0) (hW : WC C) (hR : RR C A 0) (h2 : twoB C a b = true) (n1 : 1 ≤ n) (n2 : n ≤ 999) (h : ∀ A', RR (payC C a b n).2 A' 0 → FrA 0 A A' → K (.int (iN (b2i (payC C a b n).1)), 0) (zA M Z A')) : CT l E d m_Mod_pays [(.ref 24, 41), (.int (iN a), 0), (.int (iN b), 0), (.int (iN n), 0)] (zA M Z A) K := by
  refine CT.of pn_Mod (Nat.le_of_ble_eq_true rfl) ?_
  have hV := hW.1
  have hn := hV.n
  obtain ⟨⟨ta, la⟩, ⟨tb, lb⟩, hab⟩ := twoB_alv h2
  rw [show ((a : Int)).toNat = a from rfl] at la
  rw [show ((b : Int)).toNat = b from rfl] at lb
  have pa := hV.pu a (by omega)
  have pb := hV.pu b (by omega)
  have dr := debtC_rng hV a (b := b) (by omega)
  unfold payC at h
  rw [show ((a : Int)).toNat = a from rfl, show ((b : Int)).toNat = b from rfl] at h
  refine b_Mod_pays_0 (by omega) (c_of (B := 0) (w := 0) (by omega) hB (by omega) (by omega) (by omega) ?_)
  rw [(hR.2.1 a ta.2).1, toI_int, iN_lt (by omega) (by omega) (by omega) (by omega)]
  have no : ¬ (twoB C a b = true ∧ slotOfC C a b ≠ -1 ∧ n ≤ C 7 (slotOfC C a b).toNat ∧ n ≤ C 2 a ∧ C 2 b + n ≤ 9999) → K (.int (iN 0), 0) (zA M Z A) := by
    intro c
    rw [if_neg c] at h
    exact h A hR (FrA.rf 0 A)
  refine ⟨fun c => ⟨z01, no (fun q => by omega)⟩, fun c => c_noted (B := 0) (by omega) hB (by omega) hV hR tb.2 (by omega) (by omega) ?_⟩
  rw [toI_int, iN_lt (by omega) (by omega) (by omega) (by omega)]
  rcases slotOf_rng hV a (b := b) (by omega) with e | ⟨i, e, i1, i2, i3, i4⟩
  · rw [debtC_none e]
    exact ⟨fun _ => ⟨z01, no (fun q => q.2.1 e)⟩, fun c => absurd (by omega) c⟩
  · rw [debtC_slot e]
    refine ⟨fun c2 => ⟨z01, no (fun q => ?_)⟩, fun c2 => c_of (B := 0) (w := 0) (by omega) hB (by omega) (by omega) (by omega) ?_⟩
    · have := q.2.2.1
      rw [e, show ((i : Int)).toNat = i from rfl] at this
      omega
    rw [(hR.2.1 b tb.2).1, toI_int, iN_add, iN_le (by omega) (by omega) (by omega) (by omega)]
    refine ⟨fun c3 => ?_, fun c3 => ⟨z01, no (fun q => by omega)⟩⟩
    have yes : twoB C a b = true ∧ slotOfC C a b ≠ -1 ∧ n ≤ C 7 (slotOfC C a b).toNat ∧ n ≤ C 2 a ∧ C 2 b + n ≤ 9999 := ⟨h2, by rw [e]; omega, by rw [e, show ((i : Int)).toNat = i from rfl]; omega, (by omega), c3⟩
    rw [if_pos yes, e, show ((i : Int)).toNat = i from rfl] at h
    refine c_paysSome (by omega) hB hV hR ta.2 tb.2 e i3 (by omega) (by omega) (by omega) c3 (fun A1 r1 f1 => ?_)
    have wh := hW.hand (a := a) (b := b) (n := n) ta.2 tb.2 la lb (by omega) (by omega) c3
    have e6 : handC C a b n 6 = C 6 := handC_c (by decide) (by decide)
    have e7 : handC C a b n 7 = C 7 := handC_c (by decide) (by decide)
    have wt := WC_takeOff (n := n) wh i3 (by rw [e6, i4]; omega) (by omega) (by rw [e7]; omega)
    exact c_fills (B := 0) (by omega) hB (by omega) wt r1 (fun A2 r2 f2 => ⟨o01, h A2 r2 (f1.tr f2)⟩)
theorem c_chordOf {l : Launch} {E : EnvT} {d : Nat} {K : AV → Mem → Prop} {M : Mem} {C Z : Ch} {A : Nat → Int} {a b : Nat} (hd : 6 ≤ d) (hB : Z 0 21 = 0) (hW : WC C) (hR : RR C A 0) (ta : (a : Int) < C 0 8) (tb : (b : Int) < C 0 8) (hab : a ≠ b) (h : ∀ A', RR (netC C a b).2 A' 0 → FrA 0 A A' → K (.int (iN (netC C a b).1), 0) (zA M Z A')) : CT l E d m_Mod_chordOf [(.ref 24, 41), (.int (iN a), 0), (.int (iN b), 0)] (zA M Z A) K := by
  refine CT.of pn_Mod (Nat.le_of_ble_eq_true rfl) ?_
  have hV := hW.1
  have hn := hV.n
  have dr1 := debtC_rng hV a (b := b) (by omega)
  have dr2 := debtC_rng hV b (b := a) (by omega)
  unfold netC at h
  rw [show ((a : Int)).toNat = a from rfl, show ((b : Int)).toNat = b from rfl] at h
  refine b_Mod_chordOf_0 (by omega) (c_noted (B := 0) (by omega) hB (by omega) hV hR tb (by omega) (by omega) (c_noted (B := 0) (by omega) hB (by omega) hV hR ta (by omega) (by omega) ?_))
  rw [toI_int, toI_int]
  refine c_min (by omega) (by omega) (by omega) (by omega) (by omega) ?_
  rw [toI_int, iN_eq0 (by omega) (by omega)]
  have no : ¬ (twoB C a b = true ∧ slotOfC C a b ≠ -1 ∧ slotOfC C b a ≠ -1) → K (.int (iN 0), 0) (zA M Z A) := by
    intro c
    rw [if_neg c] at h
    exact h A hR (FrA.rf 0 A)
  rcases slotOf_rng hV a (b := b) (by omega) with e | ⟨i, e, i1, i2, i3, i4⟩
  · rw [debtC_none e] at dr1 ⊢
    exact ⟨fun c => absurd (by omega) c, fun _ => no (fun q => q.2.1 e)⟩
  rcases slotOf_rng hV b (b := a) (by omega) with e' | ⟨j, e', j1, j2, j3, j4⟩
  · rw [debtC_none e'] at dr2 ⊢
    exact ⟨fun c => absurd (by omega) c, fun _ => no (fun q => q.2.2 e')⟩
  rw [debtC_slot e, debtC_slot e']
  have ia : i / 6 = b := by have := hV.le b (by omega); omega
  have ja : j / 6 = a := by have := hV.le a (by omega); omega
  have w2 := hW.2.2.1 i i3 (by rw [i4]; omega)
  rw [ia, i4] at w2
  have d1 : C 7 i ≠ 0 := fun q => absurd ((hW.2.1 i i3).mpr q) (by rw [i4]; omega)
  have d2 : C 7 j ≠ 0 := fun q => absurd ((hW.2.1 j j3).mpr q) (by rw [j4]; omega)
  have de1 := hV.de i i3
  have de2 := hV.de j j3
  have ij : j ≠ i := (by omega)
  have h2 : twoB C a b = true := by
    unfold twoB
    rw [Bool.and_eq_true, Bool.and_eq_true]
    exact ⟨livesB_iff.mpr ⟨⟨(by omega), ta⟩, w2.2.2.2.2.1⟩, livesB_iff.mpr ⟨⟨(by omega), tb⟩, w2.2.2.2.2.2⟩, by simp; omega⟩
  rw [if_pos ⟨h2, by rw [e]; omega, by rw [e']; omega⟩, e, e', show ((i : Int)).toNat = i from rfl, show ((j : Int)).toNat = j from rfl] at h
  refine ⟨fun _ => ?_, fun c => absurd c (by omega)⟩
  refine c_goesOff (by omega) hB hV hR tb (by omega) (by omega) e (by omega) (by omega) (fun A1 r1 f1 => ?_)
  have w1 := WC_takeOff (n := min (C 7 i) (C 7 j)) hW i3 (by rw [i4]; omega) (by omega) (by omega)
  have z0 : takeOffC C i (min (C 7 i) (C 7 j)) 0 = C 0 := takeOffC_c (by decide) (by decide)
  have z4 : takeOffC C i (min (C 7 i) (C 7 j)) 4 = C 4 := takeOffC_c (by decide) (by decide)
  have e2 : slotOfC (takeOffC C i (min (C 7 i) (C 7 j))) b a = j := by
    rw [← e']
    unfold slotOfC
    rw [z4]
    refine fndF_congr (fun x x1 x2 => ?_)
    have le := hV.le a (by omega)
    have : x ≠ i := (by omega)
    unfold takeOffC
    split
    · rw [upd2_k _ _ this, upd2_c _ _ (by decide)]
    · rw [upd2_c _ _ (by decide)]
  refine c_goesOff (by omega) hB w1.1 r1 (by rw [z0]; exact ta) (by omega) (by omega) e2 (by omega) (by rw [takeOffC_7 ij]; omega) (fun A2 r2 f2 => ?_)
  have w3 := WC_takeOff (n := min (C 7 i) (C 7 j)) w1 j3 (by
    unfold takeOffC
    split
    · rw [upd2_k _ _ ij, upd2_c _ _ (by decide), j4]; omega
    · rw [upd2_c _ _ (by decide), j4]; omega) (by omega) (by rw [takeOffC_7 ij]; omega)
  exact c_fills (B := 0) (by omega) hB (by omega) w3 r2 (fun A3 r3 f3 => h A3 r3 ((f1.tr f2).tr f3))
theorem c_lends {l : Launch} {E : EnvT} {d : Nat} {K : AV → Mem → Prop} {M : Mem} {C Z : Ch} {A : Nat → Int} {a b : Nat} {n : Int} (hd : 6 ≤ d) (hB : Z 0 21 = 0) (hW : WC C) (hR : RR C A 0) (h2 : twoB C a b = true) (n1 : 1 ≤ n) (n2 : n ≤ 999) (h : ∀ A', RR (lendC C a b n).2 A' 0 → FrA 0 A A' → K (.int (iN (b2i (lendC C a b n).1)), 0) (zA M Z A')) : CT l E d m_Mod_lends [(.ref 24, 41), (.int (iN a), 0), (.int (iN b), 0), (.int (iN n), 0)] (zA M Z A) K := by
  refine CT.of pn_Mod (Nat.le_of_ble_eq_true rfl) ?_
  have hV := hW.1
  have hn := hV.n
  obtain ⟨⟨ta, la⟩, ⟨tb, lb⟩, hab⟩ := twoB_alv h2
  have pa := hV.pu a (by omega)
  have pb := hV.pu b (by omega)
  unfold lendC at h
  rw [show ((a : Int)).toNat = a from rfl, show ((b : Int)).toNat = b from rfl] at h
  have no : ¬ (twoB C a b = true ∧ inS (C 0 11) b = false ∧ n ≤ C 2 a ∧ C 2 b + n ≤ 9999 ∧ (oweC C b a n).1 = true) → ∀ A', RR C A' 0 → FrA 0 A A' → K (.int (iN 0), 0) (zA M Z A') := by
    intro c
    rw [if_neg c] at h
    exact h
  have c1 : ∀ x : Bool, (iN (b2i x) = iN 1 ↔ x = true) := by intro x; cases x <;> decide +kernel
  refine b_Mod_lends_0 (by omega) (c_of (B := 0) (w := 3) (by omega) hB (by omega) (by omega) (by omega) ?_)
  rw [(hR.2.1 b tb.2).2.2.2.1, toI_int, c1]
  refine ⟨fun c => ⟨z01, no (fun q => by rw [c] at q; exact absurd q.2.1 (by decide)) A hR (FrA.rf 0 A)⟩, fun c => c_of (B := 0) (w := 0) (by omega) hB (by omega) (by omega) (by omega) ?_⟩
  rw [(hR.2.1 a ta.2).1, toI_int, iN_lt (by omega) (by omega) (by omega) (by omega)]
  refine ⟨fun c2 => ⟨z01, no (fun q => by omega) A hR (FrA.rf 0 A)⟩, fun c2 => c_of (B := 0) (w := 0) (by omega) hB (by omega) (by omega) (by omega) ?_⟩
  rw [(hR.2.1 b tb.2).1, toI_int, iN_add, iN_lt (by omega) (by omega) (by omega) (by omega)]
  refine ⟨fun c3 => ⟨z01, no (fun q => by omega) A hR (FrA.rf 0 A)⟩, fun c3 => c_books (B := 0) (by omega) hB (by omega) hV hR (by omega) (by omega) ta.2 (by omega) (by omega) (fun A1 r1 f1 => ?_)⟩
  rw [toI_int, b2i_z]
  refine ⟨fun c4 => ?_, fun c4 => ⟨z01, ?_⟩⟩
  · rw [Bool.not_eq_false] at c4
    have e0 : (oweC C b a n).2 0 = C 0 := oweC_c (by omega)
    have e2 : (oweC C b a n).2 2 = C 2 := oweC_c (by omega)
    have q1 := (r1.2.1 a (by rw [e0]; exact ta.2)).1
    rw [e2] at q1
    have v1 := VB_owe (C := C) (a := b) (b := a) (n := n) hV (by omega) (by omega) (by omega) (by omega) (by omega)
    rw [iN_neg]
    refine c_gets (by omega) (by omega) q1 (by omega) (by omega) ?_
    rw [show C 2 a + -n = C 2 a - n by omega]
    have r2 := RR_2 (t := a) (v := C 2 a - n) v1 r1 (by omega)
    have v2 := VB_2 (k := a) (v := C 2 a - n) v1 (by omega) (by omega)
    have q2 := (r2.2.1 b (by rw [upd2_c _ _ (by decide), e0]; exact tb.2)).1
    rw [upd2_k _ _ (by omega), e2] at q2
    refine c_gets (by omega) (by omega) q2 (by omega) (by omega) ?_
    have r3 := RR_2 (t := b) (v := C 2 b + n) v2 r2 (by omega)
    rw [if_pos ⟨h2, by simpa using c, (by omega), (by omega), c4⟩] at h
    exact ⟨o01, h _ r3 ((f1.u _ (by omega) (by omega)).u _ (by omega) (by omega))⟩
  · have e := oweC_false c4
    rw [e] at r1
    exact no (fun q => by rw [c4] at q; exact absurd q.2.2.2.2 (by decide)) A1 r1 f1
