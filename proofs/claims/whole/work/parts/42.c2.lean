theorem pn_Choir : plainName "FalseNotes$Choir" = true := by decide +kernel
theorem pn_Waiting : plainName "FalseNotes$Waiting" = true := by decide +kernel
theorem pn_Tray : plainName "FalseNotes$Tray" = true := by decide +kernel
theorem pn_Years : plainName "FalseNotes$Years" = true := by decide +kernel
theorem pn_Life : plainName "FalseNotes$Life" = true := by decide +kernel
theorem pn_Marks : plainName "FalseNotes$Marks" = true := by decide +kernel
theorem pn_Ties : plainName "FalseNotes$Ties" = true := by decide +kernel
theorem pn_Tokens : plainName "FalseNotes$Tokens" = true := by decide +kernel
theorem pn_CReader : plainName "FalseNotes$ChoirReader" = true := by decide +kernel
theorem pn_YReader : plainName "FalseNotes$YearsReader" = true := by decide +kernel
theorem pn_FN : plainName "FalseNotes" = true := by decide +kernel
theorem pn_Mod : plainName "FalseNotesModel" = true := by decide +kernel
theorem pn_Integer : plainName "java/lang/Integer" = true := by decide +kernel
theorem pn_Arrays : plainName "java/util/Arrays" = true := by decide +kernel
def inS (m : Int) (s : Nat) : Bool := m.toNat.testBit s
theorem shr_bit0 : ∀ m : Nat, m < 256 → ∀ s : Nat, s < 8 → ((iN (m : Int) >>> (iN (s : Int) &&& 31)) &&& iN 1) = iN (b2i (m.testBit s)) := by decide +kernel
theorem shr_bit {m : Int} {s : Nat} (h1 : 0 ≤ m) (h2 : m < 256) (h3 : s < 8) : ((iN m >>> (iN (s : Int) &&& 31)) &&& iN 1) = iN (b2i (inS m s)) := by
  obtain ⟨k, rfl⟩ : ∃ k : Nat, m = k := ⟨m.toNat, by omega⟩
  exact shr_bit0 k (by omega) s h3
theorem b2i_01 (b : Bool) : b2i b = 0 ∨ b2i b = 1 := by cases b <;> simp [b2i]
theorem b2i_lo (b : Bool) : 0 ≤ b2i b := by cases b <;> simp [b2i]
theorem b2i_hi (b : Bool) : b2i b ≤ 1 := by cases b <;> simp [b2i]
theorem b2i_0 (b : Bool) : b2i b = 0 ↔ b = false := by cases b <;> simp [b2i]
theorem b2i_z (b : Bool) : iN (b2i b) = 0 ↔ b = false := by cases b <;> decide +kernel
theorem z01 : iN 0 = 0 ∨ iN 0 = 1 := Or.inl (by decide +kernel)
theorem o01 : iN 1 = 0 ∨ iN 1 = 1 := Or.inr (by decide +kernel)
theorem bb01 (b : Bool) : iN (b2i b) = 0 ∨ iN (b2i b) = 1 := by cases b <;> decide +kernel
def popc (m : Nat) : Int := cntN (fun i => m.testBit i) 8
def bcF (x0 : Int32) : Int32 := ((((((((x0 - (((x0).toUInt32 >>> (((iN 1)).toUInt32 &&& Int32.toUInt32 31)).toInt32 &&& (iN 1431655765))) &&& (iN 858993459)) + ((((x0 - (((x0).toUInt32 >>> (((iN 1)).toUInt32 &&& Int32.toUInt32 31)).toInt32 &&& (iN 1431655765)))).toUInt32 >>> (((iN 2)).toUInt32 &&& Int32.toUInt32 31)).toInt32 &&& (iN 858993459))) + (((((x0 - (((x0).toUInt32 >>> (((iN 1)).toUInt32 &&& Int32.toUInt32 31)).toInt32 &&& (iN 1431655765))) &&& (iN 858993459)) + ((((x0 - (((x0).toUInt32 >>> (((iN 1)).toUInt32 &&& Int32.toUInt32 31)).toInt32 &&& (iN 1431655765)))).toUInt32 >>> (((iN 2)).toUInt32 &&& Int32.toUInt32 31)).toInt32 &&& (iN 858993459)))).toUInt32 >>> (((iN 4)).toUInt32 &&& Int32.toUInt32 31)).toInt32) &&& (iN 252645135)) + (((((((x0 - (((x0).toUInt32 >>> (((iN 1)).toUInt32 &&& Int32.toUInt32 31)).toInt32 &&& (iN 1431655765))) &&& (iN 858993459)) + ((((x0 - (((x0).toUInt32 >>> (((iN 1)).toUInt32 &&& Int32.toUInt32 31)).toInt32 &&& (iN 1431655765)))).toUInt32 >>> (((iN 2)).toUInt32 &&& Int32.toUInt32 31)).toInt32 &&& (iN 858993459))) + (((((x0 - (((x0).toUInt32 >>> (((iN 1)).toUInt32 &&& Int32.toUInt32 31)).toInt32 &&& (iN 1431655765))) &&& (iN 858993459)) + ((((x0 - (((x0).toUInt32 >>> (((iN 1)).toUInt32 &&& Int32.toUInt32 31)).toInt32 &&& (iN 1431655765)))).toUInt32 >>> (((iN 2)).toUInt32 &&& Int32.toUInt32 31)).toInt32 &&& (iN 858993459)))).toUInt32 >>> (((iN 4)).toUInt32 &&& Int32.toUInt32 31)).toInt32) &&& (iN 252645135))).toUInt32 >>> (((iN 8)).toUInt32 &&& Int32.toUInt32 31)).toInt32) + ((((((((x0 - (((x0).toUInt32 >>> (((iN 1)).toUInt32 &&& Int32.toUInt32 31)).toInt32 &&& (iN 1431655765))) &&& (iN 858993459)) + ((((x0 - (((x0).toUInt32 >>> (((iN 1)).toUInt32 &&& Int32.toUInt32 31)).toInt32 &&& (iN 1431655765)))).toUInt32 >>> (((iN 2)).toUInt32 &&& Int32.toUInt32 31)).toInt32 &&& (iN 858993459))) + (((((x0 - (((x0).toUInt32 >>> (((iN 1)).toUInt32 &&& Int32.toUInt32 31)).toInt32 &&& (iN 1431655765))) &&& (iN 858993459)) + ((((x0 - (((x0).toUInt32 >>> (((iN 1)).toUInt32 &&& Int32.toUInt32 31)).toInt32 &&& (iN 1431655765)))).toUInt32 >>> (((iN 2)).toUInt32 &&& Int32.toUInt32 31)).toInt32 &&& (iN 858993459)))).toUInt32 >>> (((iN 4)).toUInt32 &&& Int32.toUInt32 31)).toInt32) &&& (iN 252645135)) + (((((((x0 - (((x0).toUInt32 >>> (((iN 1)).toUInt32 &&& Int32.toUInt32 31)).toInt32 &&& (iN 1431655765))) &&& (iN 858993459)) + ((((x0 - (((x0).toUInt32 >>> (((iN 1)).toUInt32 &&& Int32.toUInt32 31)).toInt32 &&& (iN 1431655765)))).toUInt32 >>> (((iN 2)).toUInt32 &&& Int32.toUInt32 31)).toInt32 &&& (iN 858993459))) + (((((x0 - (((x0).toUInt32 >>> (((iN 1)).toUInt32 &&& Int32.toUInt32 31)).toInt32 &&& (iN 1431655765))) &&& (iN 858993459)) + ((((x0 - (((x0).toUInt32 >>> (((iN 1)).toUInt32 &&& Int32.toUInt32 31)).toInt32 &&& (iN 1431655765)))).toUInt32 >>> (((iN 2)).toUInt32 &&& Int32.toUInt32 31)).toInt32 &&& (iN 858993459)))).toUInt32 >>> (((iN 4)).toUInt32 &&& Int32.toUInt32 31)).toInt32) &&& (iN 252645135))).toUInt32 >>> (((iN 8)).toUInt32 &&& Int32.toUInt32 31)).toInt32)).toUInt32 >>> (((iN 16)).toUInt32 &&& Int32.toUInt32 31)).toInt32) &&& (iN 63))
theorem bcF_eq : ∀ m : Nat, m < 256 → bcF (iN (m : Int)) = iN (popc m) := by decide +kernel
theorem c_bitCount {l : Launch} {E : EnvT} {d : Nat} {K : AV → Mem → Prop} {M : Mem} {m : Int} (hd : 1 ≤ d) (h1 : 0 ≤ m) (h2 : m < 256) (h : K (.int (iN (popc m.toNat)), 0) M) : CT l E d m_Integer_bitCount [(.int (iN m), 0)] M K := by
  refine CT.of pn_Integer (Nat.le_of_ble_eq_true rfl) ?_
  refine b_Integer_bitCount_0 hd ?_
  obtain ⟨k, rfl⟩ : ∃ k : Nat, m = k := ⟨m.toNat, by omega⟩
  have e := bcF_eq k (by omega)
  unfold bcF at e
  rw [e]
  exact h
def VB (C : Ch) : Prop := (0 ≤ C 0 8 ∧ C 0 8 ≤ 8) ∧ (∀ j, 9 ≤ j → j ≤ 12 → 0 ≤ C 0 j ∧ C 0 j < 256) ∧ (0 ≤ C 0 13 ∧ C 0 13 ≤ 50) ∧ (0 ≤ C 0 14 ∧ C 0 14 ≤ 9999) ∧ (-2147483648 ≤ C 0 15 ∧ C 0 15 < 2147483648) ∧ (∀ s, s < 8 → 0 ≤ C 2 s ∧ C 2 s ≤ 9999) ∧ (∀ s, s < 8 → -1 ≤ C 3 s ∧ C 3 s < 8) ∧ (∀ s, s < 8 → 0 ≤ C 4 s ∧ C 4 s ≤ 6) ∧ (∀ i, i < 48 → 0 ≤ C 5 i ∧ C 5 i ≤ 24) ∧ (∀ i, i < 48 → -1 ≤ C 6 i ∧ C 6 i < 8) ∧ (∀ i, i < 48 → 0 ≤ C 7 i ∧ C 7 i ≤ 999) ∧ (0 ≤ C 8 3 ∧ C 8 3 ≤ 8) ∧ (∀ k, k < 8 → 0 ≤ C 9 k ∧ C 9 k < 8) ∧ (∀ k, k < 8 → 0 ≤ C 10 k ∧ C 10 k < 8) ∧ (∀ k, k < 8 → 0 ≤ C 11 k ∧ C 11 k ≤ 999)
theorem VB.n {C : Ch} (h : VB C) : 0 ≤ C 0 8 ∧ C 0 8 ≤ 8 := h.1
theorem VB.ms {C : Ch} (h : VB C) : ∀ j, 9 ≤ j → j ≤ 12 → 0 ≤ C 0 j ∧ C 0 j < 256 := h.2.1
theorem VB.hum {C : Ch} (h : VB C) : 0 ≤ C 0 13 ∧ C 0 13 ≤ 50 := h.2.2.1
theorem VB.sun {C : Ch} (h : VB C) : 0 ≤ C 0 14 ∧ C 0 14 ≤ 9999 := h.2.2.2.1
theorem VB.paid {C : Ch} (h : VB C) : -2147483648 ≤ C 0 15 ∧ C 0 15 < 2147483648 := h.2.2.2.2.1
theorem VB.pu {C : Ch} (h : VB C) : ∀ s, s < 8 → 0 ≤ C 2 s ∧ C 2 s ≤ 9999 := h.2.2.2.2.2.1
theorem VB.he {C : Ch} (h : VB C) : ∀ s, s < 8 → -1 ≤ C 3 s ∧ C 3 s < 8 := h.2.2.2.2.2.2.1
theorem VB.le {C : Ch} (h : VB C) : ∀ s, s < 8 → 0 ≤ C 4 s ∧ C 4 s ≤ 6 := h.2.2.2.2.2.2.2.1
theorem VB.no {C : Ch} (h : VB C) : ∀ i, i < 48 → 0 ≤ C 5 i ∧ C 5 i ≤ 24 := h.2.2.2.2.2.2.2.2.1
theorem VB.ho {C : Ch} (h : VB C) : ∀ i, i < 48 → -1 ≤ C 6 i ∧ C 6 i < 8 := h.2.2.2.2.2.2.2.2.2.1
theorem VB.de {C : Ch} (h : VB C) : ∀ i, i < 48 → 0 ≤ C 7 i ∧ C 7 i ≤ 999 := h.2.2.2.2.2.2.2.2.2.2.1
theorem VB.w {C : Ch} (h : VB C) : 0 ≤ C 8 3 ∧ C 8 3 ≤ 8 := h.2.2.2.2.2.2.2.2.2.2.2.1
theorem VB.wa {C : Ch} (h : VB C) : ∀ k, k < 8 → 0 ≤ C 9 k ∧ C 9 k < 8 := h.2.2.2.2.2.2.2.2.2.2.2.2.1
theorem VB.wb {C : Ch} (h : VB C) : ∀ k, k < 8 → 0 ≤ C 10 k ∧ C 10 k < 8 := h.2.2.2.2.2.2.2.2.2.2.2.2.2.1
theorem VB.wm {C : Ch} (h : VB C) : ∀ k, k < 8 → 0 ≤ C 11 k ∧ C 11 k ≤ 999 := h.2.2.2.2.2.2.2.2.2.2.2.2.2.2
theorem c_isIn {l : Launch} {E : EnvT} {d : Nat} {K : AV → Mem → Prop} {M : Mem} {m : Int} {s : Nat} (hd : 1 ≤ d) (h1 : 0 ≤ m) (h2 : m < 256) (h3 : s < 8) (h : K (.int (iN (b2i (inS m s))), 0) M) : CT l E d m_Choir_isIn [(.int (iN m), 0), (.int (iN s), 0)] M K := by
  refine CT.of pn_Choir (Nat.le_of_ble_eq_true rfl) ?_
  refine b_Choir_isIn_0 hd ?_
  rw [shr_bit h1 h2 h3]
  cases hb : inS m s with
  | false => rw [hb] at h; exact ⟨fun _ => ⟨z01, h⟩, fun c => absurd (by decide +kernel) c⟩
  | true => rw [hb] at h; exact ⟨fun c => absurd c (by decide +kernel), fun _ => ⟨o01, h⟩⟩
theorem c_oneIfIn {l : Launch} {E : EnvT} {d : Nat} {K : AV → Mem → Prop} {M : Mem} {m : Int} {s : Nat} (hd : 1 ≤ d) (h1 : 0 ≤ m) (h2 : m < 256) (h3 : s < 8) (h : K (.int (iN (b2i (inS m s))), 0) M) : CT l E d m_Choir_oneIfIn [(.int (iN m), 0), (.int (iN s), 0)] M K := by
  refine CT.of pn_Choir (Nat.le_of_ble_eq_true rfl) ?_
  refine b_Choir_oneIfIn_0 hd ?_
  rw [shr_bit h1 h2 h3]
  exact h
def knowsB (C : Ch) (z : Int) : Bool := decide (0 ≤ z ∧ z < C 0 8)
def livesB (C : Ch) (z : Int) : Bool := decide (0 ≤ z ∧ z < C 0 8) && !inS (C 0 12) z.toNat
theorem c_knows {l : Launch} {E : EnvT} {d : Nat} {K : AV → Mem → Prop} {M : Mem} {r : Nat} {z : Int} (hd : 1 ≤ d) (hV : VB (M r)) (h1 : -2147483648 ≤ z) (h2 : z < 2147483648) (h : K (.int (iN (b2i (knowsB (M r) z))), 0) M) : CT l E d m_Choir_knows [(.ref r, 11), (.int (iN z), 0)] M K := by
  refine CT.of pn_Choir (Nat.le_of_ble_eq_true rfl) ?_
  refine b_Choir_knows_0 hd ?_
  have hn := hV.n
  simp (disch := omega) only [true_or, or_true, true_and, iN_lt, iN_le, iN_eq, iN_lt0, iN_le0, iN_0le, iN_0lt, iN_eq0, iN_eq1, iN_add, iN_sub, iN_mul, iN_neg, iN_clN, toI_int]
  refine ⟨fun c => ?_, fun c => ⟨fun c2 => ?_, fun c2 => ?_⟩⟩
  · rw [show knowsB (M r) z = false from decide_eq_false (by omega)] at h; exact h
  · rw [show knowsB (M r) z = false from decide_eq_false (by omega)] at h; exact h
  · rw [show knowsB (M r) z = true from decide_eq_true (by omega)] at h; exact h
theorem c_lives {l : Launch} {E : EnvT} {d : Nat} {K : AV → Mem → Prop} {M : Mem} {r : Nat} {z : Int} (hd : 1 ≤ d) (hV : VB (M r)) (h1 : -2147483648 ≤ z) (h2 : z < 2147483648) (h : K (.int (iN (b2i (livesB (M r) z))), 0) M) : CT l E d m_Choir_lives [(.ref r, 11), (.int (iN z), 0)] M K := by
  refine CT.of pn_Choir (Nat.le_of_ble_eq_true rfl) ?_
  refine b_Choir_lives_0 hd ?_
  have hn := hV.n
  have hm := hV.ms 12 (by omega) (by omega)
  refine ⟨fun c => ⟨z01, ?_⟩, fun c => ⟨fun c2 => ⟨z01, ?_⟩, fun c2 => ?_⟩⟩
  · rw [iN_lt0 h1 h2] at c
    have e : decide (0 ≤ z ∧ z < M r 0 8) = false := decide_eq_false (by omega)
    unfold livesB at h; rw [e] at h; exact h
  · rw [iN_lt0 h1 h2] at c
    rw [iN_le (by omega) (by omega) h1 h2] at c2
    have e : decide (0 ≤ z ∧ z < M r 0 8) = false := decide_eq_false (by omega)
    unfold livesB at h; rw [e] at h; exact h
  · rw [iN_lt0 h1 h2] at c
    rw [iN_le (by omega) (by omega) h1 h2] at c2
    obtain ⟨k, rfl⟩ : ∃ k : Nat, z = k := ⟨z.toNat, by omega⟩
    have e : decide (0 ≤ (k : Int) ∧ (k : Int) < M r 0 8) = true := decide_eq_true (by omega)
    unfold livesB at h
    rw [e] at h
    rw [shr_bit hm.1 hm.2 (by omega), b2i_z]
    have e2 : (k : Int).toNat = k := rfl
    rw [e2] at h
    cases hb : inS (M r 0 12) k with
    | false => rw [hb] at h; exact ⟨fun c => absurd rfl c, fun _ => ⟨o01, h⟩⟩
    | true => rw [hb] at h; exact ⟨fun _ => ⟨z01, h⟩, fun c => absurd c (by decide)⟩
def twoB (C : Ch) (a b : Int) : Bool := livesB C a && (livesB C b && !decide (a = b))
theorem c_areTwo {l : Launch} {E : EnvT} {d : Nat} {K : AV → Mem → Prop} {M : Mem} {r : Nat} {a b : Int} (hd : 2 ≤ d) (hV : VB (M r)) (h1 : -2147483648 ≤ a) (h2 : a < 2147483648) (h3 : -2147483648 ≤ b) (h4 : b < 2147483648) (h : K (.int (iN (b2i (twoB (M r) a b))), 0) M) : CT l E d m_Choir_areTwo [(.ref r, 11), (.int (iN a), 0), (.int (iN b), 0)] M K := by
  refine CT.of pn_Choir (Nat.le_of_ble_eq_true rfl) ?_
  refine b_Choir_areTwo_0 (by omega) (c_lives (by omega) hV h1 h2 ?_)
  unfold twoB at h
  simp only [toI_int, b2i_z]
  refine ⟨fun c => ⟨z01, ?_⟩, fun c => c_lives (by omega) hV h3 h4 ?_⟩
  · rw [c] at h; exact h
  · rw [Bool.not_eq_false] at c
    rw [c] at h
    simp only [toI_int, b2i_z]
    refine ⟨fun c => ⟨z01, ?_⟩, fun c => ⟨fun e => ⟨z01, ?_⟩, fun e => ⟨o01, ?_⟩⟩⟩
    · rw [c] at h; exact h
    · rw [Bool.not_eq_false] at c
      rw [iN_eq h1 h2 h3 h4] at e
      rw [c, decide_eq_true e] at h; exact h
    · rw [Bool.not_eq_false] at c
      rw [iN_eq h1 h2 h3 h4] at e
      rw [c, decide_eq_false e] at h; exact h
