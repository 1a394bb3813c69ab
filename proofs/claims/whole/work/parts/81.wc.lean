def alv (C : Ch) (s : Nat) : Prop := inS (C 0 12) s = false
def W1 (C : Ch) : Prop := ∀ i, i < 48 → (C 6 i = -1 ↔ C 7 i = 0)
def W2 (C : Ch) : Prop := ∀ i, i < 48 → C 6 i ≠ -1 → ((i / 6 : Nat) : Int) < C 0 8 ∧ ((i % 6 : Nat) : Int) < C 4 (i / 6) ∧ C 6 i < C 0 8 ∧ C 6 i ≠ ((i / 6 : Nat) : Int) ∧ alv C (C 6 i).toNat ∧ alv C (i / 6)
def W3 (C : Ch) : Prop := ∀ i j, i < 48 → j < 48 → i ≠ j → i / 6 = j / 6 → C 6 i = C 6 j → C 6 i = -1
def W4 (C : Ch) : Prop := ∀ k : Nat, (k : Int) < C 8 3 → C 9 k < C 0 8 ∧ C 10 k < C 0 8 ∧ C 9 k ≠ C 10 k ∧ 1 ≤ C 11 k ∧ alv C (C 9 k).toNat ∧ alv C (C 10 k).toNat
def W5 (C : Ch) : Prop := ∀ k j : Nat, (k : Int) < C 8 3 → (j : Int) < C 8 3 → C 9 k = C 9 j → C 10 k = C 10 j → k = j
def W6 (C : Ch) : Prop := ∀ k : Nat, (k : Int) < C 8 3 → ∀ i, i < 48 → ((i / 6 : Nat) : Int) = C 10 k → C 6 i ≠ C 9 k
def W7 (C : Ch) : Prop := ∀ s : Nat, (s : Int) < C 0 8 → 1 ≤ C 4 s
def W8 (C : Ch) : Prop := ∀ j, 9 ≤ j → j ≤ 12 → ∀ s : Nat, C 0 8 ≤ s → inS (C 0 j) s = false
def W9 (C : Ch) : Prop := ∀ s : Nat, (s : Int) < C 0 8 → C 3 s < C 0 8 ∧ C 3 s ≠ s
def W10 (C : Ch) : Prop := ∀ s : Nat, (s : Int) < C 0 8 → inS (C 0 12) s = true → C 2 s = 0
def WC (C : Ch) : Prop := VB C ∧ W1 C ∧ W2 C ∧ W3 C ∧ W4 C ∧ W5 C ∧ W6 C ∧ W7 C ∧ W8 C ∧ W9 C ∧ W10 C
theorem WC_7 {C : Ch} {i : Nat} {v : Int} (h : WC C) (hi : i < 48) (hh : C 6 i ≠ -1) (v1 : 1 ≤ v) (v2 : v ≤ 999) : WC (upd2 C 7 i v) := by
  obtain ⟨hV, w1, w2, w3, w4, w5, w6, w7, w8, w9, w10⟩ := h
  refine ⟨VB_7 hV (by omega) v2, ?_, ?_, ?_, ?_, ?_, ?_, ?_, ?_, ?_, ?_⟩
  · intro j hj
    rw [upd2_at, upd2_c _ _ (by decide : 6 ≠ 7)]
    split
    · rename_i e
      subst e
      exact ⟨fun q => absurd q hh, fun q => absurd q (by omega)⟩
    · exact w1 j hj
  · simp (disch := decide) only [W2, alv, upd2_c]; exact w2
  · simp (disch := decide) only [W3, upd2_c]; exact w3
  · simp (disch := decide) only [W4, alv, upd2_c]; exact w4
  · simp (disch := decide) only [W5, upd2_c]; exact w5
  · simp (disch := decide) only [W6, upd2_c]; exact w6
  · simp (disch := decide) only [W7, upd2_c]; exact w7
  · simp (disch := decide) only [W8, upd2_c]; exact w8
  · simp (disch := decide) only [W9, upd2_c]; exact w9
  · simp (disch := decide) only [W10, upd2_c]; exact w10
theorem WC_free {C : Ch} {i : Nat} (h : WC C) (hi : i < 48) : WC (upd2 (upd2 C 7 i 0) 6 i (-1)) := by
  obtain ⟨hV, w1, w2, w3, w4, w5, w6, w7, w8, w9, w10⟩ := h
  refine ⟨VB_6 (VB_7 hV (by omega) (by omega)) (by omega) (by omega), ?_, ?_, ?_, ?_, ?_, ?_, ?_, ?_, ?_, ?_⟩
  · intro j hj
    rw [upd2_at, upd2_c _ _ (by decide : 7 ≠ 6), upd2_at, upd2_c _ _ (by decide : 6 ≠ 7)]
    split
    · simp
    · exact w1 j hj
  · intro j hj hne
    rw [upd2_at, upd2_c _ _ (by decide : 6 ≠ 7)] at hne ⊢
    simp (disch := decide) only [alv, upd2_c] at hne ⊢
    split at hne
    · exact absurd rfl hne
    · rename_i e
      rw [if_neg e]
      exact w2 j hj hne
  · intro a b ha hb hab hl
    rw [upd2_at, upd2_at, upd2_c _ _ (by decide : 6 ≠ 7)]
    split
    · intro _; rfl
    · split
      · intro q; exact q
      · exact w3 a b ha hb hab hl
  · simp (disch := decide) only [W4, alv, upd2_c]; exact w4
  · simp (disch := decide) only [W5, upd2_c]; exact w5
  · intro k hk a ha hl
    simp (disch := decide) only [upd2_c] at hk hl ⊢
    have b := hV.wa k (by have := hV.w; omega)
    rw [upd2_at, upd2_c _ _ (by decide : 6 ≠ 7)]
    split
    · omega
    · exact w6 k hk a ha hl
  · simp (disch := decide) only [W7, upd2_c]; exact w7
  · simp (disch := decide) only [W8, upd2_c]; exact w8
  · simp (disch := decide) only [W9, upd2_c]; exact w9
  · simp (disch := decide) only [W10, upd2_c]; exact w10
theorem WC_takeOff {C : Ch} {i : Nat} {n : Int} (h : WC C) (hi : i < 48) (hh : C 6 i ≠ -1) (n1 : 0 ≤ n) (n2 : n ≤ C 7 i) : WC (takeOffC C i n) := by
  have d := h.1.de i hi
  unfold takeOffC
  split
  · rename_i e
    rw [e]
    exact WC_free h hi
  · exact WC_7 h hi hh (by omega) (by omega)
theorem WC_take0 {C : Ch} {i : Nat} (h : WC C) (hi : i < 48) : WC (takeOffC C i (C 7 i)) := by
  unfold takeOffC
  rw [if_pos (by omega), show C 7 i - C 7 i = 0 by omega]
  exact WC_free h hi
/-- a new holder at a free NOTE -/
theorem WC_place {C : Ch} {i : Nat} {a v : Int} (h : WC C) (hi : i < 48) (h1 : ((i / 6 : Nat) : Int) < C 0 8) (h2 : ((i % 6 : Nat) : Int) < C 4 (i / 6)) (a0 : 0 ≤ a) (a1 : a < C 0 8) (a2 : a ≠ ((i / 6 : Nat) : Int)) (a3 : alv C a.toNat) (a4 : alv C (i / 6)) (a5 : ∀ j, j < 48 → j / 6 = i / 6 → C 6 j ≠ a) (a6 : ∀ k : Nat, (k : Int) < C 8 3 → C 10 k = ((i / 6 : Nat) : Int) → C 9 k ≠ a) (v1 : 1 ≤ v) (v2 : v ≤ 999) : WC (upd2 (upd2 C 6 i a) 7 i v) := by
  obtain ⟨hV, w1, w2, w3, w4, w5, w6, w7, w8, w9, w10⟩ := h
  have hn := hV.n
  refine ⟨VB_7 (VB_6 hV (by omega) (by omega)) (by omega) (by omega), ?_, ?_, ?_, ?_, ?_, ?_, ?_, ?_, ?_, ?_⟩
  · intro j hj
    rw [upd2_at, upd2_c _ _ (by decide : 6 ≠ 7), upd2_at, upd2_c _ _ (by decide : 7 ≠ 6)]
    split
    · omega
    · exact w1 j hj
  · intro j hj
    rw [upd2_c _ _ (by decide : 6 ≠ 7), upd2_at]
    simp (disch := decide) only [alv, upd2_c]
    split
    · rename_i e
      subst e
      intro _
      exact ⟨h1, h2, a1, a2, a3, a4⟩
    · exact w2 j hj
  · intro x y hx hy hxy hl
    rw [upd2_c _ _ (by decide : 6 ≠ 7), upd2_at, upd2_at]
    split
    · rename_i e
      subst e
      rw [if_neg (fun q => hxy q.symm)]
      intro q
      exact absurd q.symm (a5 y hy hl.symm)
    · split
      · rename_i e
        subst e
        intro q
        exact absurd q (a5 x hx hl)
      · exact w3 x y hx hy hxy hl
  · simp (disch := decide) only [W4, alv, upd2_c]; exact w4
  · simp (disch := decide) only [W5, upd2_c]; exact w5
  · intro k hk x hx hl
    simp (disch := decide) only [upd2_c] at hk hl ⊢
    rw [upd2_at]
    split
    · rename_i e
      subst e
      exact fun q => a6 k hk hl.symm q.symm
    · exact w6 k hk x hx hl
  · simp (disch := decide) only [W7, upd2_c]; exact w7
  · simp (disch := decide) only [W8, upd2_c]; exact w8
  · simp (disch := decide) only [W9, upd2_c]; exact w9
  · simp (disch := decide) only [W10, upd2_c]; exact w10
theorem WC_11 {C : Ch} {k : Nat} {v : Int} (h : WC C) (v1 : 1 ≤ v) (v2 : v ≤ 999) : WC (upd2 C 11 k v) := by
  obtain ⟨hV, w1, w2, w3, w4, w5, w6, w7, w8, w9, w10⟩ := h
  refine ⟨VB_11 hV (by omega) v2, ?_, ?_, ?_, ?_, ?_, ?_, ?_, ?_, ?_, ?_⟩
  · simp (disch := decide) only [W1, upd2_c]; exact w1
  · simp (disch := decide) only [W2, alv, upd2_c]; exact w2
  · simp (disch := decide) only [W3, upd2_c]; exact w3
  · intro j hj
    simp (disch := decide) only [alv, upd2_c] at hj ⊢
    have q := w4 j hj
    rw [upd2_at]
    refine ⟨q.1, q.2.1, q.2.2.1, ?_, q.2.2.2.2⟩
    split
    · exact v1
    · exact q.2.2.2.1
  · simp (disch := decide) only [W5, upd2_c]; exact w5
  · simp (disch := decide) only [W6, upd2_c]; exact w6
  · simp (disch := decide) only [W7, upd2_c]; exact w7
  · simp (disch := decide) only [W8, upd2_c]; exact w8
  · simp (disch := decide) only [W9, upd2_c]; exact w9
  · simp (disch := decide) only [W10, upd2_c]; exact w10
theorem joinC_9 (C : Ch) (a b n : Int) (k : Nat) : joinC C a b n 9 k = if k = (C 8 3).toNat then a else C 9 k := by simp [joinC, upd2]
theorem joinC_10 (C : Ch) (a b n : Int) (k : Nat) : joinC C a b n 10 k = if k = (C 8 3).toNat then b else C 10 k := by simp [joinC, upd2]
theorem joinC_11 (C : Ch) (a b n : Int) (k : Nat) : joinC C a b n 11 k = if k = (C 8 3).toNat then n else C 11 k := by simp [joinC, upd2]
theorem joinC_8 (C : Ch) (a b n : Int) : joinC C a b n 8 3 = C 8 3 + 1 := by simp [joinC, upd2]
theorem WC_join {C : Ch} {a b n : Int} (h : WC C) (hw : C 8 3 < 8) (a0 : 0 ≤ a) (a1 : a < C 0 8) (b0 : 0 ≤ b) (b1 : b < C 0 8) (hab : a ≠ b) (la : alv C a.toNat) (lb : alv C b.toNat) (h5 : ∀ k : Nat, (k : Int) < C 8 3 → ¬ (C 9 k = a ∧ C 10 k = b)) (h6 : ∀ i, i < 48 → ((i / 6 : Nat) : Int) = b → C 6 i ≠ a) (n1 : 1 ≤ n) (n2 : n ≤ 999) : WC (joinC C a b n) := by
  obtain ⟨hV, w1, w2, w3, w4, w5, w6, w7, w8, w9, w10⟩ := h
  have hn := hV.n
  have hs := hV.w
  have e : ∀ c, c ≠ 8 ∧ c ≠ 9 ∧ c ≠ 10 ∧ c ≠ 11 → joinC C a b n c = C c := fun c hc => joinC_c hc
  have e0 := e 0 (by omega)
  have e2 := e 2 (by omega)
  have e3 := e 3 (by omega)
  have e4 := e 4 (by omega)
  have e6 := e 6 (by omega)
  have e7 := e 7 (by omega)
  refine ⟨VB_join hV hw a0 (by omega) b0 (by omega) (by omega) n2, ?_, ?_, ?_, ?_, ?_, ?_, ?_, ?_, ?_, ?_⟩
  · simp only [W1, e6, e7]; exact w1
  · simp only [W2, alv, e0, e4, e6]; exact w2
  · simp only [W3, e6]; exact w3
  · intro k hk
    rw [joinC_8] at hk
    simp only [alv, e0, joinC_9, joinC_10, joinC_11]
    by_cases c : k = (C 8 3).toNat
    · rw [if_pos c, if_pos c, if_pos c]
      exact ⟨a1, b1, hab, n1, la, lb⟩
    · rw [if_neg c, if_neg c, if_neg c]
      exact w4 k (by omega)
  · intro k j hk hj
    rw [joinC_8] at hk hj
    simp only [joinC_9, joinC_10]
    by_cases c : k = (C 8 3).toNat
    · by_cases c2 : j = (C 8 3).toNat
      · intros; omega
      · rw [if_pos c, if_neg c2, if_pos c, if_neg c2]
        intro q1 q2
        exact absurd ⟨q1.symm, q2.symm⟩ (h5 j (by omega))
    · by_cases c2 : j = (C 8 3).toNat
      · rw [if_neg c, if_pos c2, if_neg c, if_pos c2]
        intro q1 q2
        exact absurd ⟨q1, q2⟩ (h5 k (by omega))
      · rw [if_neg c, if_neg c2, if_neg c, if_neg c2]
        exact w5 k j (by omega) (by omega)
  · intro k hk i hi
    rw [joinC_8] at hk
    rw [e6]
    simp only [joinC_9, joinC_10]
    by_cases c : k = (C 8 3).toNat
    · rw [if_pos c, if_pos c]
      exact h6 i hi
    · rw [if_neg c, if_neg c]
      exact w6 k (by omega) i hi
  · simp only [W7, e0, e4]; exact w7
  · simp only [W8, e0]; exact w8
  · simp only [W9, e0, e3]; exact w9
  · simp only [W10, e0, e2]; exact w10
theorem leaveC_at (C : Ch) (k : Nat) {c : Nat} (hc : c = 9 ∨ c = 10 ∨ c = 11) (i : Nat) (hi : (i : Int) < C 8 3 - 1) : leaveC C k c i = C c (if k ≤ i then i + 1 else i) := by
  unfold leaveC
  rw [upd2_c _ _ (by omega)]
  unfold shC
  by_cases h : k ≤ i
  · rw [if_pos ⟨hc, h, by omega⟩, if_pos h]
  · rw [if_neg (fun q => h q.2.1), if_neg h]
theorem leaveC_8 (C : Ch) (k : Nat) : leaveC C k 8 3 = C 8 3 - 1 := by unfold leaveC; rw [upd2_same]
theorem WC_leave {C : Ch} {k : Nat} (h : WC C) (hk : (k : Int) < C 8 3) : WC (leaveC C k) := by
  obtain ⟨hV, w1, w2, w3, w4, w5, w6, w7, w8, w9, w10⟩ := h
  have hs := hV.w
  have e : ∀ c, c ≠ 8 ∧ c ≠ 9 ∧ c ≠ 10 ∧ c ≠ 11 → leaveC C k c = C c := fun c hc => leaveC_c hc
  have e0 := e 0 (by omega)
  have e2 := e 2 (by omega)
  have e3 := e 3 (by omega)
  have e4 := e 4 (by omega)
  have e6 := e 6 (by omega)
  have e7 := e 7 (by omega)
  have lt : ∀ i : Nat, (i : Int) < C 8 3 - 1 → (((if k ≤ i then i + 1 else i) : Nat) : Int) < C 8 3 := by
    intro i hi
    split <;> omega
  refine ⟨VB_leave hV k (by omega), ?_, ?_, ?_, ?_, ?_, ?_, ?_, ?_, ?_, ?_⟩
  · simp only [W1, e6, e7]; exact w1
  · simp only [W2, alv, e0, e4, e6]; exact w2
  · simp only [W3, e6]; exact w3
  · intro i hi
    rw [leaveC_8] at hi
    simp only [alv, e0]
    rw [leaveC_at C k (Or.inl rfl) i hi, leaveC_at C k (Or.inr (Or.inl rfl)) i hi, leaveC_at C k (Or.inr (Or.inr rfl)) i hi]
    exact w4 _ (lt i hi)
  · intro i j hi hj
    rw [leaveC_8] at hi hj
    rw [leaveC_at C k (Or.inl rfl) i hi, leaveC_at C k (Or.inr (Or.inl rfl)) i hi, leaveC_at C k (Or.inl rfl) j hj, leaveC_at C k (Or.inr (Or.inl rfl)) j hj]
    intro q1 q2
    have := w5 _ _ (lt i hi) (lt j hj) q1 q2
    split at this <;> split at this <;> omega
  · intro i hi x hx
    rw [leaveC_8] at hi
    rw [e6, leaveC_at C k (Or.inl rfl) i hi, leaveC_at C k (Or.inr (Or.inl rfl)) i hi]
    exact w6 _ (lt i hi) x hx
  · simp only [W7, e0, e4]; exact w7
  · simp only [W8, e0]; exact w8
  · simp only [W9, e0, e3]; exact w9
  · simp only [W10, e0, e2]; exact w10
theorem WC_2 {C : Ch} {s : Nat} {v : Int} (h : WC C) (v1 : 0 ≤ v) (v2 : v ≤ 9999) (hd : inS (C 0 12) s = true → (s : Int) < C 0 8 → v = 0) : WC (upd2 C 2 s v) := by
  obtain ⟨hV, w1, w2, w3, w4, w5, w6, w7, w8, w9, w10⟩ := h
  refine ⟨VB_2 hV v1 v2, ?_, ?_, ?_, ?_, ?_, ?_, ?_, ?_, ?_, ?_⟩
  · simp (disch := decide) only [W1, upd2_c]; exact w1
  · simp (disch := decide) only [W2, alv, upd2_c]; exact w2
  · simp (disch := decide) only [W3, upd2_c]; exact w3
  · simp (disch := decide) only [W4, alv, upd2_c]; exact w4
  · simp (disch := decide) only [W5, upd2_c]; exact w5
  · simp (disch := decide) only [W6, upd2_c]; exact w6
  · simp (disch := decide) only [W7, upd2_c]; exact w7
  · simp (disch := decide) only [W8, upd2_c]; exact w8
  · simp (disch := decide) only [W9, upd2_c]; exact w9
  · intro t ht hdt
    simp (disch := decide) only [upd2_c] at ht hdt
    rw [upd2_at]
    split
    · rename_i e
      subst e
      exact hd hdt ht
    · exact w10 t ht hdt
theorem WC_3 {C : Ch} {s : Nat} {v : Int} (h : WC C) (v1 : -1 ≤ v) (v2 : v < C 0 8 ∨ v = -1) (v3 : v ≠ s) : WC (upd2 C 3 s v) := by
  obtain ⟨hV, w1, w2, w3, w4, w5, w6, w7, w8, w9, w10⟩ := h
  have hn := hV.n
  refine ⟨VB_3 hV v1 (by omega), ?_, ?_, ?_, ?_, ?_, ?_, ?_, ?_, ?_, ?_⟩
  · simp (disch := decide) only [W1, upd2_c]; exact w1
  · simp (disch := decide) only [W2, alv, upd2_c]; exact w2
  · simp (disch := decide) only [W3, upd2_c]; exact w3
  · simp (disch := decide) only [W4, alv, upd2_c]; exact w4
  · simp (disch := decide) only [W5, upd2_c]; exact w5
  · simp (disch := decide) only [W6, upd2_c]; exact w6
  · simp (disch := decide) only [W7, upd2_c]; exact w7
  · simp (disch := decide) only [W8, upd2_c]; exact w8
  · intro t ht
    simp (disch := decide) only [upd2_c] at ht ⊢
    rw [upd2_at]
    split
    · rename_i e
      subst e
      exact ⟨(by omega), v3⟩
    · exact w9 t ht
  · simp (disch := decide) only [W10, upd2_c]; exact w10
/-- a field of the choir that is no set and no number of SINGERS -/
theorem WC_f {C : Ch} {j : Nat} {v : Int} (h : WC C) (hj : 13 ≤ j) (hV' : VB (upd2 C 0 j v)) : WC (upd2 C 0 j v) := by
  obtain ⟨hV, w1, w2, w3, w4, w5, w6, w7, w8, w9, w10⟩ := h
  have k8 : upd2 C 0 j v 0 8 = C 0 8 := upd2_k _ _ (by omega)
  have k12 : upd2 C 0 j v 0 12 = C 0 12 := upd2_k _ _ (by omega)
  refine ⟨hV', ?_, ?_, ?_, ?_, ?_, ?_, ?_, ?_, ?_, ?_⟩
  · simp (disch := decide) only [W1, upd2_c]; exact w1
  · simp (disch := decide) only [W2, alv, upd2_c, k8, k12]; exact w2
  · simp (disch := decide) only [W3, upd2_c]; exact w3
  · simp (disch := decide) only [W4, alv, upd2_c, k8, k12]; exact w4
  · simp (disch := decide) only [W5, upd2_c]; exact w5
  · simp (disch := decide) only [W6, upd2_c]; exact w6
  · simp (disch := decide) only [W7, upd2_c, k8]; exact w7
  · intro i i1 i2 s hs
    rw [k8] at hs
    rw [upd2_k _ _ (by omega)]
    exact w8 i i1 i2 s hs
  · simp (disch := decide) only [W9, upd2_c, k8]; exact w9
  · simp (disch := decide) only [W10, upd2_c, k8, k12]; exact w10
theorem WC.hand {C : Ch} {a b : Nat} {n : Int} (h : WC C) (ha : (a : Int) < C 0 8) (hb : (b : Int) < C 0 8) (la : alv C a) (lb : alv C b) (h1 : 0 ≤ n) (h2 : n ≤ C 2 a) (h3 : C 2 b + n ≤ 9999) : WC (handC C a b n) := by
  have hV := h.1
  have hn := hV.n
  have p1 := hV.pu a (by omega)
  have hh := hand_b hV (a := a) (b := b) (by omega) (by omega) h1 h2 h3
  have q1 : WC (upd2 C 2 a (C 2 a - n)) := WC_2 h (by omega) (by omega) (fun q => by unfold alv at la; rw [la] at q; cases q)
  have q2 : WC (upd2 (upd2 C 2 a (C 2 a - n)) 2 b (upd2 C 2 a (C 2 a - n) 2 b + n)) := WC_2 q1 hh.1 hh.2 (fun q => by
    rw [upd2_c _ _ (by decide : 0 ≠ 2)] at q
    unfold alv at lb; rw [lb] at q; cases q)
  unfold handC
  exact WC_f q2 (by omega) (VB_f15 q2.1 (wr_rng _).1 (wr_rng _).2)
