/-- a year's kind, the class's and the reference's -/
def kR (k : Int) : Int := if k = 3 then 6 else if k = 9 then 9 else if k = 11 then 10 else if k = 12 then 11 else if k = 13 then 12 else if k = 14 then 13 else if k = 15 then 14 else if k = 19 then 17 else if k = 20 then 18 else if k = 21 then 19 else if k = 1 then 1604 else if k = 17 then 1620 else 1621
def kOk (k : Int) : Prop := k = 3 ∨ k = 9 ∨ k = 11 ∨ k = 12 ∨ k = 13 ∨ k = 14 ∨ k = 15 ∨ k = 19 ∨ k = 20 ∨ k = 21 ∨ k = 1 ∨ k = 17 ∨ k = 18
def RYr (Y : Ch) (A : Nat → Int) (B i : Nat) : Prop := kOk (Y 1 i) ∧ A (B + 238 + 6 * i) = kR (Y 1 i) ∧ (Y 1 i = 19 → A (B + 238 + 6 * i + 1) = Y 4 i) ∧ ((Y 1 i = 1 ∨ Y 1 i = 3 ∨ Y 1 i = 9 ∨ Y 1 i = 11 ∨ Y 1 i = 13 ∨ Y 1 i = 14 ∨ Y 1 i = 17 ∨ Y 1 i = 18) → A (B + 238 + 6 * i + 1) = Y 2 i) ∧ ((Y 1 i = 9 ∨ Y 1 i = 11 ∨ Y 1 i = 14 ∨ Y 1 i = 17) → A (B + 238 + 6 * i + 2) = Y 3 i) ∧ ((Y 1 i = 1 ∨ Y 1 i = 9 ∨ Y 1 i = 11 ∨ Y 1 i = 17) → A (B + 238 + 6 * i + 3) = Y 4 i) ∧ ((Y 1 i = 1 ∨ Y 1 i = 17 ∨ Y 1 i = 18 ∨ Y 1 i = 19 ∨ Y 1 i = 20) → A (B + 238 + 6 * i + 4) = Y 6 i) ∧ ((Y 1 i = 1 ∨ Y 1 i = 17) → A (B + 238 + 6 * i + 5) = Y 5 i)
/-- years Y and the reference's from B on -/
def RY (Y : Ch) (A : Nat → Int) (B : Nat) : Prop := (Y 0 8 = 1 → A (B + 4) = Y 0 6) ∧ (Y 0 8 = 0 → A (B + 4) = -1) ∧ ∀ i : Nat, (i : Int) < Y 0 6 → RYr Y A B i
theorem RYr.fr {Y : Ch} {A A' : Nat → Int} {B i : Nat} (h : RYr Y A B i) (e : ∀ j, B + 238 ≤ j → j < B + 602 → A' j = A j) (hi : i < 60) : RYr Y A' B i := by
  obtain ⟨h0, h1, h2, h3, h4, h5, h6, h7⟩ := h
  exact ⟨h0, by rw [e _ (by omega) (by omega)]; exact h1, fun q => by rw [e _ (by omega) (by omega)]; exact h2 q, fun q => by rw [e _ (by omega) (by omega)]; exact h3 q, fun q => by rw [e _ (by omega) (by omega)]; exact h4 q, fun q => by rw [e _ (by omega) (by omega)]; exact h5 q, fun q => by rw [e _ (by omega) (by omega)]; exact h6 q, fun q => by rw [e _ (by omega) (by omega)]; exact h7 q⟩
theorem RY.fr {Y : Ch} {A A' : Nat → Int} (hB : YB Y) (h : RY Y A 0) (f : FrA 0 A A') : RY Y A' 0 := by
  refine ⟨fun q => by rw [f _ (by omega)]; exact h.1 q, fun q => by rw [f _ (by omega)]; exact h.2.1 q, fun i hi => (h.2.2 i hi).fr (fun j h1 h2 => f j (by omega)) ?_⟩
  have := hB.1
  omega
theorem RYr.g {Y : Ch} {A : Nat → Int} {i : Nat} (h : RYr Y A 0 i) : A (238 + 6 * i) = kR (Y 1 i) := by
  have := h.2.1
  rwa [show 0 + 238 + 6 * i = 238 + 6 * i by omega] at this
theorem RYr.gL {Y : Ch} {A : Nat → Int} {i : Nat} (h : RYr Y A 0 i) (k : Y 1 i = 19) : A (238 + 6 * i + 1) = Y 4 i := by
  have := h.2.2.1 k
  rwa [show 0 + 238 + 6 * i = 238 + 6 * i by omega] at this
theorem RYr.g1 {Y : Ch} {A : Nat → Int} {i : Nat} (h : RYr Y A 0 i) (k : Y 1 i = 1 ∨ Y 1 i = 3 ∨ Y 1 i = 9 ∨ Y 1 i = 11 ∨ Y 1 i = 13 ∨ Y 1 i = 14 ∨ Y 1 i = 17 ∨ Y 1 i = 18) : A (238 + 6 * i + 1) = Y 2 i := by
  have := h.2.2.2.1 k
  rwa [show 0 + 238 + 6 * i = 238 + 6 * i by omega] at this
theorem RYr.g2 {Y : Ch} {A : Nat → Int} {i : Nat} (h : RYr Y A 0 i) (k : Y 1 i = 9 ∨ Y 1 i = 11 ∨ Y 1 i = 14 ∨ Y 1 i = 17) : A (238 + 6 * i + 2) = Y 3 i := by
  have := h.2.2.2.2.1 k
  rwa [show 0 + 238 + 6 * i = 238 + 6 * i by omega] at this
theorem RYr.g3 {Y : Ch} {A : Nat → Int} {i : Nat} (h : RYr Y A 0 i) (k : Y 1 i = 1 ∨ Y 1 i = 9 ∨ Y 1 i = 11 ∨ Y 1 i = 17) : A (238 + 6 * i + 3) = Y 4 i := by
  have := h.2.2.2.2.2.1 k
  rwa [show 0 + 238 + 6 * i = 238 + 6 * i by omega] at this
theorem RYr.g4 {Y : Ch} {A : Nat → Int} {i : Nat} (h : RYr Y A 0 i) (k : Y 1 i = 1 ∨ Y 1 i = 17 ∨ Y 1 i = 18 ∨ Y 1 i = 19 ∨ Y 1 i = 20) : A (238 + 6 * i + 4) = Y 6 i := by
  have := h.2.2.2.2.2.2.1 k
  rwa [show 0 + 238 + 6 * i = 238 + 6 * i by omega] at this
theorem RYr.g5 {Y : Ch} {A : Nat → Int} {i : Nat} (h : RYr Y A 0 i) (k : Y 1 i = 1 ∨ Y 1 i = 17) : A (238 + 6 * i + 5) = Y 5 i := by
  have := h.2.2.2.2.2.2.2 k
  rwa [show 0 + 238 + 6 * i = 238 + 6 * i by omega] at this
theorem r_holds {l : Launch} {E : EnvT} {d : Nat} {K : AV → Mem → Prop} {M : Mem} {Y C Z : Ch} {A : Nat → Int} {i : Nat} (hd : 8 ≤ d) (hB : Z 0 21 = 0) (hW : WC C) (hR : RR C A 0) (hY : YV Y) (hi : i < 60) (hT : YT Y i) (hr : RYr Y A 0 i) (hk : Y 1 i = 1 ∨ Y 1 i = 17 ∨ Y 1 i = 18) (hN2 : Y 2 i < C 0 8) (hN : Y 1 i ≠ 17 ∨ Y 3 i < C 0 8) (h : K (.int (iN (b2i (holdsB Y C i))), 0) (zA M Z A)) : CT l E d m_Mod_holds [(.ref 24, 41), (.int (iN ((238 + 6 * i : Nat) : Int)), 0)] (zA M Z A) K := by
  refine CT.of pn_Mod (Nat.le_of_ble_eq_true rfl) ?_
  have hV := hW.1
  have h8 := hV.n
  obtain ⟨y1, y2, y3, y4, y5, y6⟩ := hY i hi
  have r1 := hr.g
  have fin : ∀ v : Int, -100000 ≤ v → v ≤ 100000 → (Y 1 i = 1 ∨ Y 1 i = 17) → K (.int (iN (b2i (cmpB v (Y 5 i) (Y 4 i)))), 0) (zA M Z A) → G l E d m_Mod_holds 91 [(0, (.ref 24, 41)), (1, (.int (iN ((238 + 6 * i : Nat) : Int)), 0)), (4, (.int (iN v), 0))] [] (zA M Z A) K := by
    intro v v1 v2 hq hK
    have q5 := hr.g5 hq
    have q3 := hr.g3 (by omega)
    refine b_Mod_holds_91 (by omega) ?_
    simp only [zA_1, iN_add]
    rw [clA (z := ((238 + 6 * i : Nat) : Int) + 5) (j := 238 + 6 * i + 5) (by omega) (by omega), clA (z := ((238 + 6 * i : Nat) : Int) + 3) (j := 238 + 6 * i + 3) (by omega) (by omega), q5, q3, iN_eq (a := Y 5 i) (by omega) (by omega) (by omega) (by omega), iN_eq (a := Y 5 i) (by omega) (by omega) (by omega) (by omega), iN_eq (a := v) (by omega) (by omega) (by omega) (by omega), iN_le (a := v) (by omega) (by omega) (by omega) (by omega), iN_le (b := v) (by omega) (by omega) (by omega) (by omega)]
    unfold cmpB at hK
    refine ⟨inA (by omega) (by omega), fun c => ⟨inA (by omega) (by omega), fun c2 => ⟨inA (by omega) (by omega), fun c3 => ⟨z01, ?_⟩, fun c3 => ⟨o01, ?_⟩⟩, fun c2 => ⟨inA (by omega) (by omega), fun c3 => ⟨z01, ?_⟩, fun c3 => ⟨o01, ?_⟩⟩⟩, fun c => ⟨inA (by omega) (by omega), fun c3 => ⟨z01, ?_⟩, fun c3 => ⟨o01, ?_⟩⟩⟩
    · rw [if_neg c, if_neg c2, decide_eq_false c3] at hK; exact hK
    · rw [if_neg c, if_neg c2, decide_eq_true c3] at hK; exact hK
    · rw [if_neg c, if_pos c2, decide_eq_false (by omega)] at hK; exact hK
    · rw [if_neg c, if_pos c2, decide_eq_true (by omega)] at hK; exact hK
    · rw [if_pos c, decide_eq_false (by omega)] at hK; exact hK
    · rw [if_pos c, decide_eq_true (by omega)] at hK; exact hK
  have q2 := hr.g1 (by omega)
  have a0 : 0 ≤ Y 2 i := by
    rcases hk with q | q | q
    · exact hT.2.2 (Or.inl q)
    · exact (hT.2.1 q).1
    · exact hT.2.2 (Or.inr q)
  obtain ⟨a, ha⟩ : ∃ a : Nat, Y 2 i = a := ⟨(Y 2 i).toNat, (by omega)⟩
  unfold holdsB at h
  refine b_Mod_holds_0 (by omega) ?_
  simp only [zA_1, iN_add]
  rw [clA (z := ((238 + 6 * i : Nat) : Int)) (j := 238 + 6 * i) rfl (by omega), clA (z := ((238 + 6 * i : Nat) : Int) + 1) (j := 238 + 6 * i + 1) (by omega) (by omega), clA (z := ((238 + 6 * i : Nat) : Int) + 2) (j := 238 + 6 * i + 2) (by omega) (by omega), r1, q2, ha]
  rw [ha, show ((a : Int)).toNat = a from rfl] at h
  rcases hk with k | k | k
  · rw [if_pos k] at h
    have ek : kR (Y 1 i) = 1604 := by rw [k]; rfl
    rw [ek]
    have p := hV.pu a (by omega)
    refine ⟨inA (by omega) (by omega), inA (by omega) (by omega), fun _ => ⟨fun c => absurd (by decide +kernel) c, fun _ => c_of (B := 0) (w := 0) (by omega) hB (by omega) (by omega) (by omega) ?_⟩, fun c => absurd c (by decide +kernel)⟩
    rw [(hR.2.1 a (by omega)).1]
    exact fin _ (by omega) (by omega) (Or.inl k) h
  · rw [if_neg (by omega), if_pos k] at h
    have ek : kR (Y 1 i) = 1620 := by rw [k]; rfl
    have q3 := hr.g2 (by omega)
    obtain ⟨b, hb⟩ : ∃ b : Nat, Y 3 i = b := ⟨(Y 3 i).toNat, by have := (hT.2.1 k).2; omega⟩
    rw [hb, show ((b : Int)).toNat = b from rfl] at h
    rw [ek, q3, hb, iN_eq (a := (a : Int)) (b := (b : Int)) (by omega) (by omega) (by omega) (by omega)]
    refine ⟨inA (by omega) (by omega), inA (by omega) (by omega), fun _ => ⟨fun _ => ⟨inA (by omega) (by omega), fun c => ⟨inA (by omega) (by omega), c_owes (x := (a : Int)) (s := b) (by omega) hB hV hR (by omega) (by omega) (by omega) ?_⟩, fun c => ?_⟩, fun c => absurd c (by decide +kernel)⟩, fun c => absurd c (by decide +kernel)⟩
    · have ro := owedC_rng hV (a : Int) (b := b) (by omega)
      rw [if_neg c] at h
      exact fin _ (by omega) (by omega) (Or.inr k) h
    · rw [if_pos c] at h
      exact fin 0 (by omega) (by omega) (Or.inr k) h
  · rw [if_neg (by omega), if_neg (by omega)] at h
    have ek : kR (Y 1 i) = 1621 := by rw [k]; rfl
    rw [ek]
    refine ⟨inA (by omega) (by omega), inA (by omega) (by omega), fun c => absurd (by decide +kernel) c, fun _ => r_owesAll (by omega) hB hW hR (by omega) (r_owedAll (by omega) hB hW hR (by omega) ?_)⟩
    have o1 := owesC_rng hV (a : Int)
    have o2 := isOwC_rng hV (s := a) (by omega)
    simp only [toI_int, iN_add]
    rw [iN_eq0 (by omega) (by omega)]
    refine ⟨fun c => ⟨z01, ?_⟩, fun c => ⟨o01, ?_⟩⟩
    · have : (decide (owesC C (a : Int) = 0) && decide (isOwC C a = 0)) = false := by
        cases q1 : decide (owesC C (a : Int) = 0) with
        | false => rfl
        | true =>
          have := of_decide_eq_true q1
          rw [decide_eq_false (by omega)]; rfl
      rw [this] at h; exact h
    · rw [decide_eq_true (by omega), decide_eq_true (by omega)] at h; exact h
