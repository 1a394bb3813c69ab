theorem CT.ofF {l : Launch} {E : EnvT} {d : Nat} {mi : MI} {as : List AV} {M : Mem} {K : AV → Mem → Prop} (hy : plainFor mi.1 = true) (hn : asz as ≤ mi.2.2.1) (g : G l E d mi 0 (aargs 0 as) [] M K) : CT l E d mi as M K := by
  intro hT
  refine va_MetF (cc := mi.2.1) (maxL := mi.2.2.1) (ret := mi.2.2.2.1) hy rfl ?_
  intro p e s m args below meth c s₁ B hml hv
  obtain ⟨rfl, hH, hK, hD, hb⟩ := hv
  have he := lv_entry (as.map (cv E)) (n := mi.2.2.1) (by rw [asz_cv]; exact hn)
  rw [aargs_cv] at he
  rw [lg_entry_eq]
  exact g p e s m _ below meth c s.heap [] _ ⟨B.exec, B.bytes, hml, findClass_of_methodNamed B.named, atoms_spec (ws := WS mi) B.pre, B.returns, B.notSynchronized, hK, hD, hb⟩ hH va_S.rf (aargs_TV as 0 hT) (fun v hv => by cases hv) he
theorem c_max {l : Launch} {E : EnvT} {d : Nat} {K : AV → Mem → Prop} {M : Mem} {a b : Int} (hd : 1 ≤ d) (h1 : -2147483648 ≤ a) (h2 : a < 2147483648) (h3 : -2147483648 ≤ b) (h4 : b < 2147483648) (h : K (.int (iN (max a b)), 0) M) : CT l E d m_Math_max [(.int (iN a), 0), (.int (iN b), 0)] M K := by
  refine CT.ofF (by decide +kernel) (Nat.le_of_ble_eq_true rfl) (b_Math_max_0 hd ?_)
  simp (disch := omega) only [iN_lt]
  refine ⟨fun c => ?_, fun c => ?_⟩
  · rw [show max a b = b by omega] at h; exact h
  · rw [show max a b = a by omega] at h; exact h
theorem c_min {l : Launch} {E : EnvT} {d : Nat} {K : AV → Mem → Prop} {M : Mem} {a b : Int} (hd : 1 ≤ d) (h1 : -2147483648 ≤ a) (h2 : a < 2147483648) (h3 : -2147483648 ≤ b) (h4 : b < 2147483648) (h : K (.int (iN (min a b)), 0) M) : CT l E d m_Math_min [(.int (iN a), 0), (.int (iN b), 0)] M K := by
  refine CT.ofF (by decide +kernel) (Nat.le_of_ble_eq_true rfl) (b_Math_min_0 hd ?_)
  simp (disch := omega) only [iN_lt]
  refine ⟨fun c => ?_, fun c => ?_⟩
  · rw [show min a b = b by omega] at h; exact h
  · rw [show min a b = a by omega] at h; exact h
theorem c_slot {l : Launch} {E : EnvT} {d : Nat} {K : AV → Mem → Prop} {M : Mem} {a b : Int} (hd : 1 ≤ d) (h : K (.int (iN (a * 6 + b)), 0) M) : CT l E d m_Choir_slot [(.int (iN a), 0), (.int (iN b), 0)] M K := by
  refine CT.of (by decide +kernel) (Nat.le_of_ble_eq_true rfl) (b_Choir_slot_0 hd ?_)
  simp only [iN_mul, iN_add]
  exact h
def slotOfC (C : Ch) (x : Int) (b : Nat) : Int := fndF (fun i => C 6 i == x) (6 * b) (C 4 b).toNat
theorem c_slotOf {l : Launch} {E : EnvT} {d : Nat} {K : AV → Mem → Prop} {M : Mem} {r : Nat} {x : Int} {b : Nat} (hd : 1 ≤ d) (hb : b < 8) (hx1 : -1 ≤ x) (hx2 : x < 100) (hl : 0 ≤ M r 4 b) (hl2 : M r 4 b ≤ 6) (hh : ∀ i, i < 48 → -1 ≤ M r 6 i ∧ M r 6 i < 100) (h : K (.int (iN (slotOfC (M r) x b)), 0) M) : CT l E d m_Choir_slotOf [(.ref r, 11), (.int (iN x), 0), (.int (iN b), 0)] M K := by
  refine CT.of (by decide +kernel) (Nat.le_of_ble_eq_true rfl) (b_Choir_slotOf_0 hd ⟨iN_in (by omega) (by omega) (by omega), ?_⟩)
  simp (disch := omega) only [iN_mul, iN_add, iN_clN]
  obtain ⟨n, hn⟩ : ∃ n : Nat, M r 4 b = n := ⟨(M r 4 b).toNat, by omega⟩
  rw [hn]
  have key : ∀ m i : Nat, i + m = 6 * b + n → slotOfC (M r) x b = fndF (fun i => M r 6 i == x) i m → G l E d m_Choir_slotOf 18 [(0, (.ref r, 11)), (1, (.int (iN x), 0)), (4, (.int (iN (b * 6 + n)), 0)), (5, (.int (iN i), 0))] [] M K := by
    intro m
    induction m with
    | zero =>
      intro i hi he
      refine b_Choir_slotOf_18 hd ?_
      simp (disch := omega) only [iN_le, iN_eq, iN_add, iN_clN]
      refine ⟨fun _ => ?_, fun c => absurd (by omega) c⟩
      rw [he] at h
      exact h
    | succ m ih =>
      intro i hi he
      refine b_Choir_slotOf_18 hd ?_
      have := hh i (by omega)
      simp (disch := omega) only [iN_le, iN_eq, iN_add, iN_clN]
      refine ⟨fun c => absurd c (by omega), fun _ => ⟨iN_in (by omega) (by omega) (by omega), fun c => ?_, fun c => ?_⟩⟩
      · refine ih (i + 1) (by omega) ?_
        rw [he]
        simp [fndF, c]
      · rw [he] at h
        simpa [fndF, c] using h
  have := key n (6 * b) rfl (by unfold slotOfC; rw [hn]; rfl)
  rw [show (b : Int) * 6 = ((6 * b : Nat) : Int) by push_cast; omega]
  rw [show (b : Int) * 6 = ((6 * b : Nat) : Int) by push_cast; omega] at this
  exact this
