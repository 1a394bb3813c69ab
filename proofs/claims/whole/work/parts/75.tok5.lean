theorem z00 : iN 0 = 0 := by decide +kernel
def rfT (T : Ch) (w : Int) : Ch := upd2 T 0 10 (if T 0 3 = 4 then 1 else w)
def stSg (T : Ch) (c : Int) : Bool × Ch := if T 0 3 = 3 ∧ T 0 6 = c then (true, T) else (false, rfT T 2)
def cmT (T : Ch) : Bool × Ch := if T 0 3 = 3 ∧ T 0 6 ≠ 59 then (true, T) else (false, rfT T 2)
def kwT (T : Ch) (k : Int) : Bool × Ch := if T 0 8 = k then (true, T) else (false, rfT T 2)
def nuT (T : Ch) (a b : Int) : Bool × Ch := if T 0 3 = 2 then (if a ≤ T 0 5 ∧ T 0 5 ≤ b then (true, T) else (false, rfT T 4)) else (false, rfT T 2)
def nmT (T : Ch) : Bool × Ch := if T 0 3 = 1 ∧ T 0 7 ≤ 8 ∧ T 0 8 = -1 then (true, T) else (false, rfT T 2)
def sgT (T C : Ch) (u : Int) : Int × Ch := if (nmT T).1 then (if findC C (lI (T 0 9)) = -1 then (-1, rfT T 3) else if findC C (lI (T 0 9)) = u then (-1, rfT T 5) else (findC C (lI (T 0 9)), T)) else (-1, (nmT T).2)
theorem TI.rf {T : Ch} {L : Nat} (hT : TI T L) {w : Int} (w1 : 0 ≤ w) (w2 : w ≤ 9) : TI (rfT T w) L := by
  unfold rfT
  split
  · exact hT.f10 (by omega) (by omega)
  · exact hT.f10 w1 w2
theorem c_tRefuse {l : Launch} {E : EnvT} {d : Nat} {K : AV → Mem → Prop} {M : Mem} {r : Nat} {T : Ch} {L : Nat} {w : Int} (hd : 1 ≤ d) (hT : TI T L) (w1 : 0 ≤ w) (w2 : w ≤ 9) (h : K (.int (iN 0), 0) (setR M r (rfT T w))) : CT l E d m_Tokens_refuse [(.ref r, 4), (.int (iN w), 0)] (setR M r T) K := by
  refine CT.of pn_Tokens (Nat.le_of_ble_eq_true rfl) ?_
  have a3 := hT.2.2.2.1
  refine b_Tokens_refuse_0 hd ?_
  unfold rfT at h
  simp only [upd3_setR, setR_same, setR_setR, iN_1I, iN_small (show -2147483648 ≤ w by omega) (show w < 2147483648 by omega)]
  rw [iN_eq (by omega) (by omega) (by omega) (by omega)]
  refine ⟨fun c => ⟨z01, ?_⟩, fun c => ⟨z01, ?_⟩⟩
  · rw [if_neg c] at h; exact h
  · rw [if_pos c] at h; exact h
theorem c_standsName {l : Launch} {E : EnvT} {d : Nat} {K : AV → Mem → Prop} {M : Mem} {r : Nat} {T : Ch} {L : Nat} (hd : 2 ≤ d) (hT : TI T L) (h : K (.int (iN (b2i (nmT T).1)), 0) (setR M r (nmT T).2)) : CT l E d m_Tokens_standsName [(.ref r, 4)] (setR M r T) K := by
  refine CT.of pn_Tokens (Nat.le_of_ble_eq_true rfl) ?_
  obtain ⟨a0, a1, a2, a3, a4, a5, a6, a7, a8, a9, a10⟩ := id hT
  refine b_Tokens_standsName_0 (by omega) ?_
  unfold nmT at h
  simp only [setR_same]
  rw [iN_eq (by omega) (by omega) (by omega) (by omega), iN_lt (by omega) (by omega) (by omega) (by omega), iN_eq (by omega) (by omega) (by omega) (by omega)]
  refine ⟨fun c => c_tRefuse (by omega) hT (by omega) (by omega) ?_, fun c => ⟨fun c2 => c_tRefuse (by omega) hT (by omega) (by omega) ?_, fun c2 => ⟨fun c3 => ⟨o01, ?_⟩, fun c3 => c_tRefuse (by omega) hT (by omega) (by omega) ?_⟩⟩⟩
  · rw [if_neg (by omega)] at h; exact ⟨fun _ => ⟨z01, h⟩, fun c => absurd z00 c⟩
  · rw [if_neg (by omega)] at h; exact ⟨fun _ => ⟨z01, h⟩, fun c => absurd z00 c⟩
  · rw [if_pos (by omega)] at h; exact h
  · rw [if_neg (by omega)] at h; exact ⟨fun _ => ⟨z01, h⟩, fun c => absurd z00 c⟩
theorem c_standsSign {l : Launch} {E : EnvT} {d : Nat} {K : AV → Mem → Prop} {M : Mem} {r : Nat} {T : Ch} {L : Nat} {s : Int} (hd : 2 ≤ d) (hT : TI T L) (s1 : 0 ≤ s) (s2 : s ≤ 127) (h : K (.int (iN (b2i (stSg T s).1)), 0) (setR M r (stSg T s).2)) : CT l E d m_Tokens_standsSign [(.ref r, 4), (.int (iN s), 0)] (setR M r T) K := by
  refine CT.of pn_Tokens (Nat.le_of_ble_eq_true rfl) ?_
  obtain ⟨a0, a1, a2, a3, a4, a5, a6, a7, a8, a9, a10⟩ := id hT
  refine b_Tokens_standsSign_0 (by omega) ?_
  unfold stSg at h
  simp only [setR_same]
  rw [iN_eq (by omega) (by omega) (by omega) (by omega), iN_eq (by omega) (by omega) (by omega) (by omega)]
  refine ⟨fun c => c_tRefuse (by omega) hT (by omega) (by omega) ?_, fun c => ⟨fun c3 => ⟨o01, ?_⟩, fun c3 => c_tRefuse (by omega) hT (by omega) (by omega) ?_⟩⟩
  · rw [if_neg (by omega)] at h; exact ⟨fun _ => ⟨z01, h⟩, fun c => absurd z00 c⟩
  · rw [if_pos (by omega)] at h; exact h
  · rw [if_neg (by omega)] at h; exact ⟨fun _ => ⟨z01, h⟩, fun c => absurd z00 c⟩
theorem c_standsNumber {l : Launch} {E : EnvT} {d : Nat} {K : AV → Mem → Prop} {M : Mem} {r : Nat} {T : Ch} {L : Nat} {a b : Int} (hd : 2 ≤ d) (hT : TI T L) (s1 : 0 ≤ a) (s2 : a ≤ 9999) (s3 : 0 ≤ b) (s4 : b ≤ 9999) (h : K (.int (iN (b2i (nuT T a b).1)), 0) (setR M r (nuT T a b).2)) : CT l E d m_Tokens_standsNumber [(.ref r, 4), (.int (iN a), 0), (.int (iN b), 0)] (setR M r T) K := by
  refine CT.of pn_Tokens (Nat.le_of_ble_eq_true rfl) ?_
  obtain ⟨a0, a1, a2, a3, a4, a5, a6, a7, a8, a9, a10⟩ := id hT
  refine b_Tokens_standsNumber_0 (by omega) ?_
  unfold nuT at h
  simp only [setR_same]
  rw [iN_eq (by omega) (by omega) (by omega) (by omega), iN_lt (by omega) (by omega) (by omega) (by omega), iN_le (by omega) (by omega) (by omega) (by omega)]
  refine ⟨fun c => ⟨fun c2 => c_tRefuse (by omega) hT (by omega) (by omega) ?_, fun c2 => ⟨fun c3 => ⟨o01, ?_⟩, fun c3 => c_tRefuse (by omega) hT (by omega) (by omega) ?_⟩⟩, fun c => c_tRefuse (by omega) hT (by omega) (by omega) ?_⟩
  · rw [if_pos c, if_neg (by omega)] at h; exact ⟨fun _ => ⟨z01, h⟩, fun c => absurd z00 c⟩
  · rw [if_pos c, if_pos (by omega)] at h; exact h
  · rw [if_pos c, if_neg (by omega)] at h; exact ⟨fun _ => ⟨z01, h⟩, fun c => absurd z00 c⟩
  · rw [if_neg c] at h; exact ⟨z01, h⟩
theorem c_takeSign {l : Launch} {E : EnvT} {d : Nat} {K : AV → Mem → Prop} {M : Mem} {r : Nat} {T : Ch} {L : Nat} {s : Int} (hd : 7 ≤ d) (hr : 0 ≠ r) (hT : TI T L) (L9 : L ≤ 900) (hX : ∀ j, j < 900 → -128 ≤ M 0 2 j ∧ M 0 2 j ≤ 127) (s1 : 0 ≤ s) (s2 : s ≤ 127) (h : K (.int (iN (b2i (stSg (advT (M 0 2) L T) s).1)), 0) (setR M r (stSg (advT (M 0 2) L T) s).2)) : CT l E d m_Tokens_takeSign [(.ref r, 4), (.int (iN s), 0)] (setR M r T) K := by
  refine CT.of pn_Tokens (Nat.le_of_ble_eq_true rfl) ?_
  refine b_Tokens_takeSign_0 (by omega) (c_advance (by omega) hr hT L9 hX (c_standsSign (by omega) (adv_TI L9 hX hT) s1 s2 ?_))
  exact ⟨bb01 _, h⟩
theorem c_takeNumber {l : Launch} {E : EnvT} {d : Nat} {K : AV → Mem → Prop} {M : Mem} {r : Nat} {T : Ch} {L : Nat} {a b : Int} (hd : 7 ≤ d) (hr : 0 ≠ r) (hT : TI T L) (L9 : L ≤ 900) (hX : ∀ j, j < 900 → -128 ≤ M 0 2 j ∧ M 0 2 j ≤ 127) (s1 : 0 ≤ a) (s2 : a ≤ 9999) (s3 : 0 ≤ b) (s4 : b ≤ 9999) (h : K (.int (iN (b2i (nuT (advT (M 0 2) L T) a b).1)), 0) (setR M r (nuT (advT (M 0 2) L T) a b).2)) : CT l E d m_Tokens_takeNumber [(.ref r, 4), (.int (iN a), 0), (.int (iN b), 0)] (setR M r T) K := by
  refine CT.of pn_Tokens (Nat.le_of_ble_eq_true rfl) ?_
  refine b_Tokens_takeNumber_0 (by omega) (c_advance (by omega) hr hT L9 hX (c_standsNumber (by omega) (adv_TI L9 hX hT) s1 s2 s3 s4 ?_))
  exact ⟨bb01 _, h⟩
theorem c_takeKeyword {l : Launch} {E : EnvT} {d : Nat} {K : AV → Mem → Prop} {M : Mem} {r : Nat} {T : Ch} {L : Nat} {s : Int} (hd : 7 ≤ d) (hr : 0 ≠ r) (hT : TI T L) (L9 : L ≤ 900) (hX : ∀ j, j < 900 → -128 ≤ M 0 2 j ∧ M 0 2 j ≤ 127) (s1 : 0 ≤ s) (s2 : s ≤ 127) (h : K (.int (iN (b2i (kwT (advT (M 0 2) L T) s).1)), 0) (setR M r (kwT (advT (M 0 2) L T) s).2)) : CT l E d m_Tokens_takeKeyword [(.ref r, 4), (.int (iN s), 0)] (setR M r T) K := by
  refine CT.of pn_Tokens (Nat.le_of_ble_eq_true rfl) ?_
  have hA := adv_TI L9 hX hT
  have a8 := hA.2.2.2.2.2.2.2.2.1
  refine b_Tokens_takeKeyword_0 (by omega) (c_advance (by omega) hr hT L9 hX ?_)
  unfold kwT at h
  rw [setR_same, iN_eq (by omega) (by omega) (by omega) (by omega)]
  refine ⟨fun c => ⟨o01, ?_⟩, fun c => c_tRefuse (by omega) hA (by omega) (by omega) ?_⟩
  · rw [if_pos c] at h; exact h
  · rw [if_neg c] at h; exact ⟨fun _ => ⟨z01, h⟩, fun c => absurd z00 c⟩
theorem c_takeCompares {l : Launch} {E : EnvT} {d : Nat} {K : AV → Mem → Prop} {M : Mem} {r : Nat} {T : Ch} {L : Nat} (hd : 7 ≤ d) (hr : 0 ≠ r) (hT : TI T L) (L9 : L ≤ 900) (hX : ∀ j, j < 900 → -128 ≤ M 0 2 j ∧ M 0 2 j ≤ 127) (h : K (.int (iN (b2i (cmT (advT (M 0 2) L T)).1)), 0) (setR M r (cmT (advT (M 0 2) L T)).2)) : CT l E d m_Tokens_takeCompares [(.ref r, 4)] (setR M r T) K := by
  refine CT.of pn_Tokens (Nat.le_of_ble_eq_true rfl) ?_
  have hA := adv_TI L9 hX hT
  obtain ⟨a0, a1, a2, a3, a4, a5, a6, a7, a8, a9, a10⟩ := id hA
  refine b_Tokens_takeCompares_0 (by omega) (c_advance (by omega) hr hT L9 hX ?_)
  unfold cmT at h
  rw [setR_same, iN_eq (by omega) (by omega) (by omega) (by omega), iN_eq (by omega) (by omega) (by omega) (by omega)]
  refine ⟨fun c => c_tRefuse (by omega) hA (by omega) (by omega) ?_, fun c => ⟨fun c2 => ⟨o01, ?_⟩, fun c2 => c_tRefuse (by omega) hA (by omega) (by omega) ?_⟩⟩
  · rw [if_neg (by omega)] at h; exact ⟨fun _ => ⟨z01, h⟩, fun c => absurd z00 c⟩
  · rw [if_pos (by omega)] at h; exact h
  · rw [if_neg (by omega)] at h; exact ⟨fun _ => ⟨z01, h⟩, fun c => absurd z00 c⟩
theorem fnd_rng (p : Nat → Bool) (n : Nat) : fnd p n = -1 ∨ (0 ≤ fnd p n ∧ fnd p n < n) := by
  unfold fnd
  rcases fndF_ge p n 0 with e | ⟨j, e, h1, h2, _⟩
  · exact Or.inl e
  · rw [e]; omega
theorem findC_rng {C : Ch} (hV : VB C) (x : Int64) : -1 ≤ findC C x ∧ findC C x < C 0 8 := by
  have hn := hV.n
  unfold findC
  have := fnd_rng (fun s => decide (lI (C 1 s) = x)) (C 0 8).toNat
  omega
theorem c_takeSinger {l : Launch} {E : EnvT} {d : Nat} {K : AV → Mem → Prop} {M : Mem} {r rc : Nat} {T : Ch} {L : Nat} {u : Int} (hd : 7 ≤ d) (hr : 0 ≠ r) (hT : TI T L) (L9 : L ≤ 900) (hX : ∀ j, j < 900 → -128 ≤ M 0 2 j ∧ M 0 2 j ≤ 127) (hc : rc ≠ r) (hV : VB (M rc)) (u1 : -1 ≤ u) (u2 : u ≤ 100) (h : K (.int (iN (sgT (advT (M 0 2) L T) (M rc) u).1), 0) (setR M r (sgT (advT (M 0 2) L T) (M rc) u).2)) : CT l E d m_Tokens_takeSinger [(.ref r, 4), (.ref rc, 11), (.int (iN u), 0)] (setR M r T) K := by
  refine CT.of pn_Tokens (Nat.le_of_ble_eq_true rfl) ?_
  have hA := adv_TI L9 hX hT
  have hE : ∀ T' : Ch, VB (setR M r T' rc) := fun T' => by rw [setR_ne M _ hc]; exact hV
  have hn := hV.n
  refine b_Tokens_takeSinger_0 (by omega) (c_advance (by omega) hr hT L9 hX (c_standsName (by omega) hA ?_))
  unfold sgT at h
  rw [toI_int, b2i_z]
  refine ⟨fun c => c_find (by omega) (hE _) ?_, fun c => ?_⟩
  · rw [Bool.not_eq_false] at c
    have e2 : (nmT (advT (M 0 2) L T)).2 = advT (M 0 2) L T := by
      unfold nmT at c ⊢
      split
      · rfl
      · rename_i q; rw [if_neg q] at c; cases c
    rw [if_pos c] at h
    rw [e2, setR_same, setR_ne M _ hc, toI_int]
    have fr := findC_rng hV (lI (advT (M 0 2) L T 0 9))
    rw [iN_eq (by omega) (by omega) (by omega) (by omega), iN_eq (by omega) (by omega) (by omega) (by omega)]
    refine ⟨fun c2 => ⟨fun c3 => ?_, fun c3 => c_tRefuse (by omega) hA (by omega) (by omega) ?_⟩, fun c2 => c_tRefuse (by omega) hA (by omega) (by omega) ?_⟩
    · rw [if_neg c2, if_neg c3] at h; exact h
    · rw [if_neg c2, if_pos c3] at h; exact h
    · rw [if_pos c2] at h; rw [c2]; exact h
  · rw [if_neg (by simp [c])] at h; exact h
