theorem adv_10 (X : Nat → Int) (L : Nat) (T : Ch) : advT X L T 0 10 = T 0 10 := by
  unfold advT
  generalize skF X (L - (T 0 2).toNat) (T 0 2).toNat = q
  have e : tok0 X L T q 0 10 = T 0 10 := by simp [tok0, upd2]
  rw [← e]
  generalize tok0 X L T q = T0
  unfold tok1
  split
  · simp [wordT, tokW, upd2]
  · split
    · unfold numT numE
      split <;> simp [tokN, upd2]
    · split
      · simp [upd2]
      · rfl
theorem tok1_pos (X : Nat → Int) (L : Nat) (T : Ch) (h : 0 ≤ T 0 2) : tok1 X L T 0 4 = T 0 4 ∧ T 0 2 ≤ tok1 X L T 0 2 := by
  unfold tok1
  split
  · unfold wordT
    have w := rwF_rng X (L - (T 0 2).toNat) (T 0 2).toNat 0 0 (by omega) (by decide)
    refine ⟨by simp [tokW, upd2], ?_⟩
    have e : ∀ (P N W k : Int), upd2 (tokW T P N W) 0 8 k 0 2 = P := fun P N W k => by simp [tokW, upd2]
    rw [e]
    omega
  · split
    · unfold numT numE
      have w := rnF_rng X (L - (T 0 2).toNat) (T 0 2).toNat 0 0 (by omega) (by decide)
      have e : ∀ (P V : Int), tokN T P V 0 2 = P := fun P V => by simp [tokN, upd2]
      have e2 : ∀ (P V k : Int), upd2 (tokN T P V) 0 3 k 0 2 = P := fun P V k => by simp [tokN, upd2]
      split
      · refine ⟨by simp [tokN, upd2], ?_⟩
        rw [e]; omega
      · refine ⟨by simp [tokN, upd2], ?_⟩
        rw [e2]; omega
    · split
      · refine ⟨by simp [upd2], ?_⟩
        rw [upd2_same]; omega
      · exact ⟨rfl, Int.le_refl _⟩
theorem adv_pos (X : Nat → Int) (L : Nat) (T : Ch) (h : 0 ≤ T 0 2) : T 0 2 ≤ advT X L T 0 4 ∧ advT X L T 0 4 ≤ advT X L T 0 2 := by
  unfold advT
  have s := skF_rng X (L - (T 0 2).toNat) (T 0 2).toNat
  generalize skF X (L - (T 0 2).toNat) (T 0 2).toNat = q at s
  have f2 := tok0_2 X T L q
  have f4 := tok0_4 X T L q
  have tp := tok1_pos X L (tok0 X L T q) (by omega)
  omega
/-- class and reference at the same token from place p on, no fault yet -/
def OKT (X : Nat → Int) (L : Nat) (p : Int) (T Z : Ch) : Prop := TZ X L T Z ∧ TI T L ∧ (Z 0 18 = 0 ∧ Z 0 17 = -1) ∧ T 0 10 = 0 ∧ p ≤ T 0 4 ∧ T 0 4 ≤ T 0 2
/-- both have found the same fault -/
def FZ (T Z : Ch) : Prop := Z 0 18 = T 0 10 ∧ Z 0 17 = T 0 4 ∧ 1 ≤ T 0 10 ∧ T 0 10 ≤ 9 ∧ 0 ≤ T 0 4 ∧ T 0 4 ≤ 900
def ZP (Z Z' : Ch) : Prop := ∀ c k, ¬ (c = 0 ∧ ((12 ≤ k ∧ k ≤ 15) ∨ k = 17 ∨ k = 18)) → Z' c k = Z c k
theorem ZP.rf (Z : Ch) : ZP Z Z := fun _ _ _ => rfl
theorem ZP.tr {Z Z' Z'' : Ch} (h : ZP Z Z') (h' : ZP Z' Z'') : ZP Z Z'' := fun c k q => by rw [h' c k q, h c k q]
theorem ZT.p {Z Z' : Ch} (h : ZT Z Z') : ZP Z Z' := fun c k q => h c k (by omega)
theorem r_next {l : Launch} {E : EnvT} {d : Nat} {K : AV → Mem → Prop} {M : Mem} {Z T : Ch} {A : Nat → Int} {X : Nat → Int} {L : Nat} {p : Int} (hd : 3 ≤ d) (hX : XBn X) (L9 : L ≤ 900) (ok : OKT X L p T Z) (k4 : T 0 3 ≠ 4) (h : ∀ Z', ZP Z Z' → OKT X L p (advT X L T) Z' → K (.null, 0) (zA M Z' A)) : CT l E d m_Mod_ahead [(.ref 24, 41)] (zA M Z A) K := by
  obtain ⟨tz, ti, z18, t10, gp⟩ := ok
  have a2 := ti.2.2.1
  have ap := adv_pos X L T a2.1
  exact r_ahead hd hX L9 a2.1 a2.2 (tz.2.2.2.1 k4) tz.1 (fun Z' z1 z2 => h Z' z1.p ⟨z2, adv_TI L9 hX ti, ⟨by rw [z1 0 18 (by omega)]; exact z18.1, by rw [z1 0 17 (by omega)]; exact z18.2⟩, by rw [adv_10]; exact t10, (by omega), (by omega)⟩)
theorem OKT.wd {X : Nat → Int} {L : Nat} {p : Int} {T Z : Ch} (ok : OKT X L p T Z) (h : T 0 8 ≠ -1) : T 0 3 = 1 ∧ T 0 4 + 1 ≤ T 0 2 := by
  obtain ⟨tz, ti, z18, t10, gp⟩ := ok
  have k1 : T 0 3 = 1 := by
    by_cases c : T 0 3 = 1
    · exact c
    · exact absurd (tz.2.2.2.2.2.2.2.1 c) h
  obtain ⟨q, n, w1, w2, w3, w4, w5, w6, w7, w8⟩ := tz.2.2.2.2.2.2.1 k1
  exact ⟨k1, by rw [w1, w3]; push_cast; omega⟩
theorem r_next1 {l : Launch} {E : EnvT} {d : Nat} {K : AV → Mem → Prop} {M : Mem} {Z T : Ch} {A : Nat → Int} {X : Nat → Int} {L : Nat} {p : Int} (hd : 3 ≤ d) (hX : XBn X) (L9 : L ≤ 900) (ok : OKT X L p T Z) (k8 : T 0 8 ≠ -1) (h : ∀ Z', ZP Z Z' → OKT X L (T 0 4 + 1) (advT X L T) Z' → K (.null, 0) (zA M Z' A)) : CT l E d m_Mod_ahead [(.ref 24, 41)] (zA M Z A) K := by
  have w := ok.wd k8
  have ap := adv_pos X L T ok.2.1.2.2.1.1
  exact r_next hd hX L9 ok (by omega) (fun Z' z1 z2 => h Z' z1 ⟨z2.1, z2.2.1, z2.2.2.1, z2.2.2.2.1, (by omega), (by omega)⟩)
theorem r_fails {l : Launch} {E : EnvT} {d : Nat} {K : AV → Mem → Prop} {M : Mem} {Z T : Ch} {A : Nat → Int} {X : Nat → Int} {L : Nat} {p w : Int} (hd : 1 ≤ d) (ok : OKT X L p T Z) (w1 : 1 ≤ w) (w2 : w ≤ 9) (h : ∀ Z', ZP Z Z' → FZ (rfT T w) Z' → K (.int (iN 0), 0) (zA M Z' A)) : CT l E d m_Mod_fails [(.ref 24, 41), (.int (iN w), 0)] (zA M Z A) K := by
  refine CT.of pn_Mod (Nat.le_of_ble_eq_true rfl) ?_
  obtain ⟨tz, ti, z18, t10, gp⟩ := ok
  have a3 := ti.2.2.2.1
  have a4 := ti.2.2.2.2.1
  have tk := tk_iff a3.1 a3.2
  have z13 := tz.2.1
  refine b_Mod_fails_0 (by omega) ?_
  rw [zA_0, z18.1, tz.2.2.1, iN_small (z := w) (by omega) (by omega), iN_small (z := 1) (by omega) (by omega)]
  simp only [zA_0, zA_u0]
  rw [upd2_k _ _ (show 13 ≠ 18 by decide), upd2_k _ _ (show 13 ≠ 18 by decide), z13, iN_small (z := T 0 4) (by omega) (by omega)]
  have zp : ∀ v, ZP Z (upd2 (upd2 Z 0 18 v) 0 17 (T 0 4)) := fun v c k q => by rw [upd2_nn _ (by omega), upd2_nn _ (by omega)]
  have e4 : rfT T w 0 4 = T 0 4 := by unfold rfT; rw [upd2_k _ _ (by decide)]
  have e10 : rfT T w 0 10 = if T 0 3 = 4 then 1 else w := by unfold rfT; rw [upd2_same]
  refine ⟨fun c => absurd (by decide +kernel) c, fun _ => ⟨fun c => ⟨z01, h _ (zp _) ⟨?_, ?_, ?_⟩⟩, fun c => ⟨z01, h _ (zp _) ⟨?_, ?_, ?_⟩⟩⟩⟩
  · rw [e10, if_neg (fun q => c (tk.2.1.mpr q)), upd2_k _ _ (by decide), upd2_same]
  · rw [e4, upd2_same]
  · rw [e10, if_neg (fun q => c (tk.2.1.mpr q)), e4]; omega
  · rw [e10, if_pos (tk.2.1.mp c), upd2_k _ _ (by decide), upd2_same]
  · rw [e4, upd2_same]
  · rw [e10, if_pos (tk.2.1.mp c), e4]; omega
theorem r_isSign {l : Launch} {E : EnvT} {d : Nat} {K : AV → Mem → Prop} {M : Mem} {Z T : Ch} {A : Nat → Int} {X : Nat → Int} {L : Nat} {p c : Int} (hd : 1 ≤ d) (ok : OKT X L p T Z) (c1 : 0 ≤ c) (c2 : c ≤ 127) (h : K (.int (iN (b2i (decide (T 0 3 = 3 ∧ T 0 6 = c)))), 0) (zA M Z A)) : CT l E d m_Mod_isSign [(.ref 24, 41), (.int (iN c), 0)] (zA M Z A) K := by
  refine CT.of pn_Mod (Nat.le_of_ble_eq_true rfl) ?_
  obtain ⟨tz, ti, z18, t10, gp⟩ := ok
  have a3 := ti.2.2.2.1
  have a6 := ti.2.2.2.2.2.2.1
  have tk := (tk_iff a3.1 a3.2).2.2.2.1
  have z15 := tz.2.2.2.2.2.2.2.2
  refine b_Mod_isSign_0 (by omega) ?_
  rw [zA_0, tz.2.2.1, tk, iN_eq (b := c) (by omega) (by omega) (by omega) (by omega)]
  refine ⟨fun q => ⟨z01, ?_⟩, fun q => ⟨fun q2 => ⟨z01, ?_⟩, fun q2 => ⟨o01, ?_⟩⟩⟩
  · rw [decide_eq_false (fun w => q w.1)] at h; exact h
  · rw [(tz.2.2.2.2.2.1 q).1] at q2
    rw [decide_eq_false (fun w => q2 w.2)] at h; exact h
  · rw [(tz.2.2.2.2.2.1 q).1] at q2
    rw [decide_eq_true ⟨q, q2⟩] at h; exact h
theorem r_wantSign {l : Launch} {E : EnvT} {d : Nat} {K : AV → Mem → Prop} {M : Mem} {Z T : Ch} {A : Nat → Int} {X : Nat → Int} {L : Nat} {p c : Int} (hd : 4 ≤ d) (hX : XBn X) (L9 : L ≤ 900) (ok : OKT X L p T Z) (c1 : 0 ≤ c) (c2 : c ≤ 127) (hy : (stSg T c).1 = true → ∀ Z', ZP Z Z' → OKT X L p (advT X L (stSg T c).2) Z' → K (.int (iN 1), 0) (zA M Z' A)) (hn : (stSg T c).1 = false → ∀ Z', ZP Z Z' → FZ (stSg T c).2 Z' → K (.int (iN 0), 0) (zA M Z' A)) : CT l E d m_Mod_wantSign [(.ref 24, 41), (.int (iN c), 0)] (zA M Z A) K := by
  refine CT.of pn_Mod (Nat.le_of_ble_eq_true rfl) ?_
  refine b_Mod_wantSign_0 (by omega) (r_isSign (by omega) ok c1 c2 ?_)
  rw [toI_int, b2i_z, decide_eq_false_iff_not]
  unfold stSg at hy hn
  refine ⟨fun q => ?_, fun q => r_fails (by omega) ok (by omega) (by omega) (fun Z' z1 z2 => ⟨z01, ?_⟩)⟩
  · have q := Classical.not_not.mp q
    rw [if_pos q] at hy
    exact r_next (by omega) hX L9 ok (by omega) (fun Z' z1 z2 => ⟨o01, hy rfl Z' z1 z2⟩)
  · rw [if_neg q] at hn
    exact hn rfl Z' z1 z2
theorem r_wantWord {l : Launch} {E : EnvT} {d : Nat} {K : AV → Mem → Prop} {M : Mem} {Z T : Ch} {A : Nat → Int} {X : Nat → Int} {L : Nat} {p k : Int} (hd : 6 ≤ d) (hX : XBn X) (L9 : L ≤ 900) (ok : OKT X L p T Z) (k1 : 0 ≤ k) (k2 : k ≤ 21) (hy : (kwT T k).1 = true → ∀ Z', ZP Z Z' → OKT X L p (advT X L (kwT T k).2) Z' → K (.int (iN 1), 0) (zA M Z' A)) (hn : (kwT T k).1 = false → ∀ Z', ZP Z Z' → FZ (kwT T k).2 Z' → K (.int (iN 0), 0) (zA M Z' A)) : CT l E d m_Mod_wantWord [(.ref 24, 41), (.ref 8, 999), (.int (iN (kwR k)), 0)] (zA M Z A) K := by
  refine CT.of pn_Mod (Nat.le_of_ble_eq_true rfl) ?_
  have a8 := ok.2.1.2.2.2.2.2.2.2.2.1
  have r1 := kwR_rng a8.1 a8.2
  have r2 := kwR_rng (x := k) (by omega) k2
  have t8 := ok.1.2.2.2.2.2.2.2.1
  refine b_Mod_wantWord_0 (by omega) (r_inWords (by omega) hX L9 ok.2.1 ok.1 ?_)
  rw [toI_int, iN_eq (by omega) (by omega) (by omega) (by omega), kwR_inj a8.1 a8.2 (by omega) k2]
  unfold kwT at hy hn
  refine ⟨fun q => ?_, fun q => r_fails (by omega) ok (by omega) (by omega) (fun Z' z1 z2 => ⟨z01, ?_⟩)⟩
  · rw [if_pos q] at hy
    refine r_next (by omega) hX L9 ok (fun q4 => ?_) (fun Z' z1 z2 => ⟨o01, hy rfl Z' z1 z2⟩)
    have := t8 (by omega)
    omega
  · rw [if_neg q] at hn
    exact hn rfl Z' z1 z2
theorem r_isThere {l : Launch} {E : EnvT} {d : Nat} {K : AV → Mem → Prop} {M : Mem} {Z T : Ch} {A : Nat → Int} {X : Nat → Int} {L : Nat} {p k : Int} (hd : 6 ≤ d) (hX : XBn X) (L9 : L ≤ 900) (ok : OKT X L p T Z) (k1 : 0 ≤ k) (k2 : k ≤ 21) (hy : T 0 8 = k → ∀ Z', ZP Z Z' → OKT X L p (advT X L T) Z' → K (.int (iN 1), 0) (zA M Z' A)) (hn : T 0 8 ≠ k → K (.int (iN 0), 0) (zA M Z A)) : CT l E d m_Mod_isThere [(.ref 24, 41), (.int (iN (kwR k)), 0)] (zA M Z A) K := by
  refine CT.of pn_Mod (Nat.le_of_ble_eq_true rfl) ?_
  have a8 := ok.2.1.2.2.2.2.2.2.2.2.1
  have r1 := kwR_rng a8.1 a8.2
  have r2 := kwR_rng (x := k) (by omega) k2
  have t8 := ok.1.2.2.2.2.2.2.2.1
  refine b_Mod_isThere_0 (by omega) (r_inWords (by omega) hX L9 ok.2.1 ok.1 ?_)
  rw [toI_int, iN_eq (by omega) (by omega) (by omega) (by omega), kwR_inj a8.1 a8.2 (by omega) k2]
  refine ⟨fun q => ?_, fun q => ⟨z01, hn q⟩⟩
  refine r_next (by omega) hX L9 ok (fun q4 => ?_) (fun Z' z1 z2 => ⟨o01, hy q Z' z1 z2⟩)
  have := t8 (by omega)
  omega
theorem r_number {l : Launch} {E : EnvT} {d : Nat} {K : AV → Mem → Prop} {M : Mem} {Z T : Ch} {A : Nat → Int} {X : Nat → Int} {L j : Nat} {p a b : Int} (hd : 4 ≤ d) (hX : XBn X) (L9 : L ≤ 900) (ok : OKT X L p T Z) (hj : j < 3612) (a1 : 0 ≤ a) (a2 : a ≤ 9999) (b1 : 0 ≤ b) (b2 : b ≤ 9999) (hy : (nuT T a b).1 = true → ∀ Z', ZP Z Z' → OKT X L p (advT X L (nuT T a b).2) Z' → K (.int (iN 1), 0) (zA M Z' (updP A j (T 0 5)))) (hn : (nuT T a b).1 = false → ∀ Z', ZP Z Z' → FZ (nuT T a b).2 Z' → K (.int (iN 0), 0) (zA M Z' A)) : CT l E d m_Mod_number [(.ref 24, 41), (.int (iN (j : Int)), 0), (.int (iN a), 0), (.int (iN b), 0)] (zA M Z A) K := by
  refine CT.of pn_Mod (Nat.le_of_ble_eq_true rfl) ?_
  have ok2 := ok
  obtain ⟨tz, ti, z18, t10, gp⟩ := ok2
  have a3 := ti.2.2.2.1
  have a5 := ti.2.2.2.2.2.1
  have tk := (tk_iff a3.1 a3.2).2.2.1
  refine b_Mod_number_0 (by omega) ?_
  rw [zA_0, tz.2.2.1, tk]
  unfold nuT at hy hn
  refine ⟨fun q => ?_, fun q => r_fails (by omega) ok (by omega) (by omega) (fun Z' z1 z2 => ⟨z01, ?_⟩)⟩
  · rw [if_pos q] at hy hn
    rw [tz.2.2.2.2.1 q, iN_lt (by omega) (by omega) (by omega) (by omega), iN_le (by omega) (by omega) (by omega) (by omega), clA (z := (j : Int)) (j := j) rfl hj, iN_small (z := T 0 5) (by omega) (by omega), zA_u]
    refine ⟨fun c => r_fails (by omega) ok (by omega) (by omega) (fun Z' z1 z2 => ⟨z01, ?_⟩), fun c => ⟨fun c2 => ⟨inA (by omega) (by omega), ?_⟩, fun c2 => r_fails (by omega) ok (by omega) (by omega) (fun Z' z1 z2 => ⟨z01, ?_⟩)⟩⟩
    · rw [if_neg (by omega)] at hn; exact hn rfl Z' z1 z2
    · rw [if_pos (by omega)] at hy
      exact r_next (by omega) hX L9 ok (by omega) (fun Z' z1 z2 => ⟨o01, hy rfl Z' z1 z2⟩)
    · rw [if_neg (by omega)] at hn; exact hn rfl Z' z1 z2
  · rw [if_neg q] at hn; exact hn rfl Z' z1 z2
theorem r_isName {l : Launch} {E : EnvT} {d : Nat} {K : AV → Mem → Prop} {M : Mem} {Z T : Ch} {A : Nat → Int} {X : Nat → Int} {L : Nat} {p : Int} (hd : 6 ≤ d) (hX : XBn X) (L9 : L ≤ 900) (ok : OKT X L p T Z) (h : K (.int (iN (b2i (nmT T).1)), 0) (zA M Z A)) : CT l E d m_Mod_isName [(.ref 24, 41), (.ref 8, 999)] (zA M Z A) K := by
  refine CT.of pn_Mod (Nat.le_of_ble_eq_true rfl) ?_
  have ok2 := ok
  obtain ⟨tz, ti, z18, t10, gp⟩ := ok2
  have a3 := ti.2.2.2.1
  have a8 := ti.2.2.2.2.2.2.2.2.1
  have r1 := kwR_rng a8.1 a8.2
  have tk := (tk_iff a3.1 a3.2).1
  unfold nmT at h
  refine b_Mod_isName_0 (by omega) ?_
  rw [zA_0, tz.2.2.1, tk]
  refine ⟨fun q => ⟨z01, ?_⟩, fun q => ?_⟩
  · rw [if_neg (fun w => q w.1)] at h; exact h
  · obtain ⟨p, n, w1, w2, w3, w4, w5, w6, w7, w8⟩ := tz.2.2.2.2.2.2.1 q
    rw [tz.2.2.2.1 (by omega), tz.2.1, w1, w3, iN_sub, iN_lt (by omega) (by omega) (by omega) (by omega)]
    refine ⟨fun c => ⟨z01, ?_⟩, fun c => r_inWords (by omega) hX L9 ti tz ?_⟩
    · rw [if_neg (fun w => by have := w.2.1; omega)] at h; exact h
    · rw [toI_int, show iN (-1) = iN (kwR (-1)) from rfl, iN_eq (by omega) (by omega) (by decide) (by decide), kwR_inj a8.1 a8.2 (by omega) (by omega)]
      refine ⟨fun c2 => ⟨z01, ?_⟩, fun c2 => ⟨o01, ?_⟩⟩
      · rw [if_neg (fun w => c2 w.2.2)] at h; exact h
      · rw [if_pos ⟨q, by omega, c2⟩] at h; exact h
