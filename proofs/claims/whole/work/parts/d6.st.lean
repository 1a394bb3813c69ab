theorem VB_z : VB (fun _ _ => 0) := by
  unfold VB
  simp
theorem YV_z : YV (fun _ _ => 0) := by
  unfold YV
  simp
theorem WX_z : WX (fun _ _ => 0) := by
  have h0 : (fun _ _ => 0 : Ch) 0 8 = 0 := rfl
  refine ⟨VB_z, VB_fx VB_z, fun i hi => ?_, fun i hi hne => absurd (fx_6 h0 i) hne, fun i j _ _ _ _ _ => fx_6 h0 i, fun k hk => ?_, fun k j hk => ?_, fun k hk => ?_, fun s hs => ?_, fun j j1 j2 s hs => ?_, fun s hs => ?_, fun s hs => ?_⟩
  · rw [fx_6 h0, fx_c _ (by decide)]
    exact ⟨fun _ => rfl, fun _ => rfl⟩
  · rw [fx_c _ (by decide)] at hk
    omega
  · rw [fx_c _ (by decide)] at hk
    omega
  · rw [fx_c _ (by decide)] at hk
    omega
  · rw [fx_c _ (by decide)] at hs
    omega
  · rw [fx_c _ (by decide)]
    show (0 : Nat).testBit s = false
    exact Nat.zero_testBit s
  · rw [fx_c _ (by decide)] at hs
    omega
  · rw [fx_c _ (by decide)] at hs
    omega
theorem RX_z {A' : Nat → Int} (h : plA (fun _ => 0) A' 0) : RX (fun _ _ => 0) A' 0 := by
  have h0 : (fun _ _ => 0 : Ch) 0 8 = 0 := rfl
  obtain ⟨-, h1, h2, h3⟩ := h
  simp (disch := decide) only [RX, RR, RRs, fx_c]
  refine ⟨⟨h3 0 (by omega) (by omega) (by omega), h3 1 (by omega) (by omega) (by omega), h3 2 (by omega) (by omega) (by omega), h3 3 (by omega) (by omega) (by omega), h3 5 (by omega) (by omega) (by omega)⟩, fun s hs => absurd hs (by omega), fun s k hs => absurd hs (by omega), fun i hi => ⟨?_, ?_⟩, fun k hk => absurd hk (by omega)⟩
  · rw [fx_6 h0]
    exact h2 i hi
  · have := h3 (166 + i) (by omega) (by omega) (by omega)
    rw [show 0 + 166 + i = 0 + (166 + i) by omega]
    exact this
theorem IV_0 {A' : Nat → Int} (h : plA (fun _ => 0) A' 0) : IV M0 Z0 A' := by
  have tr : ∀ j, j < 4 → M0 (20 + j) = trayC := fun j hj => by
    have : j = 0 ∨ j = 1 ∨ j = 2 ∨ j = 3 := by omega
    rcases this with rfl | rfl | rfl | rfl <;> rfl
  refine ⟨16, 17, 18, 19, ⟨⟨rfl, rfl, rfl, rfl⟩, Or.inl ⟨rfl, rfl⟩, Or.inl ⟨rfl, rfl⟩, VB_z, YV_z⟩, ⟨WX_z, RX_z h, fun s hs => ?_, ⟨?_, YV_z, fun q => ?_, fun _ => rfl⟩, fun q => ?_, fun _ => h.2.1, fun i hi => ?_⟩, ⟨⟨rfl, rfl, rfl, rfl, rfl⟩, rfl, ?_, fun j _ => ?_, rfl, fun _ _ => rfl⟩, ⟨fun j hj => ?_, fun j hj => ?_⟩, ⟨⟨rfl, Or.inl rfl, fun q => ?_⟩, fun i _ => ?_, fun i _ => ?_⟩, ⟨?_, ?_, fun k _ => ?_⟩, 0, (by omega), rfl, rfl, fun j hj => absurd hj (by omega)⟩
  · exact absurd (show (s : Int) < 0 from hs) (by omega)
  · show ((0 : Int) ≤ 0 ∧ (0 : Int) ≤ 60) ∧ ((0 : Int) ≤ 0 ∧ (0 : Int) ≤ 60) ∧ ((0 : Int) = 0 ∨ (0 : Int) = 1)
    decide
  · exact absurd (show (0 : Int) = 1 from q) (by decide)
  · exact absurd (show (0 : Int) = 1 from q) (by decide)
  · exact absurd (show (i : Int) < 0 from hi) (by omega)
  · show (0 : Int) ≤ 0 ∧ (0 : Int) ≤ 900
    decide
  · show (-128 : Int) ≤ 0 ∧ (0 : Int) ≤ 127
    decide
  · rw [tr j hj]
    unfold TB trayC
    simp
  · rw [tr j hj]
    refine ⟨?_, fun q => absurd rfl q, fun k hk => ?_⟩
    · show (if j < 4 then (-1 : Int) else 0) = -1
      rw [if_pos hj]
    · exact absurd (show (k : Int) < -1 from hk) (by omega)
  · exact absurd (show (0 : Int) = 1 from q) (by decide)
  · show (0 : Int) ≤ 0 ∧ (0 : Int) ≤ 98
    decide
  · show (0 : Int) ≤ 0 ∧ (0 : Int) ≤ 98
    decide
  · show TG (tokC 2)
    unfold TG tokC
    simp
  · show TG (tokC 4)
    unfold TG tokC
    simp
  · show (0 : Int) ≤ 0 ∧ (0 : Int) < 60
    decide
