theorem r_isFrom {l : Launch} {E : EnvT} {d : Nat} {K : AV → Mem → Prop} {M : Mem} {x lo hi : Int} (hd : 1 ≤ d) (x1 : -9223372036854775808 ≤ x) (x2 : x < 9223372036854775808) (l1 : -9223372036854775808 ≤ lo) (l2 : lo < 9223372036854775808) (h1 : -9223372036854775808 ≤ hi) (h2 : hi < 9223372036854775808) (h : K (.int (iN (b2i (decide (lo ≤ x ∧ x ≤ hi)))), 0) M) : CT l E d m_Mod_isFrom [(.long (lI x), 0), (.long (lI lo), 0), (.long (lI hi), 0)] M K := by
  refine CT.of pn_Mod (Nat.le_of_ble_eq_true rfl) ?_
  refine b_Mod_isFrom_0 hd ?_
  rw [lg_cmp_lt, lg_cmp_gt, Int64.lt_iff_toInt_lt, Int64.lt_iff_toInt_lt, lI_small x1 x2, lI_small l1 l2, lI_small h1 h2]
  refine ⟨fun c => ⟨z01, ?_⟩, fun c => ⟨fun c2 => ⟨z01, ?_⟩, fun c2 => ⟨o01, ?_⟩⟩⟩
  · rw [decide_eq_false (by omega)] at h; exact h
  · rw [decide_eq_false (by omega)] at h; exact h
  · rw [decide_eq_true (by omega)] at h; exact h
theorem r_isFromI {l : Launch} {E : EnvT} {d : Nat} {K : AV → Mem → Prop} {M : Mem} {x lo hi : Int} (hd : 1 ≤ d) (x1 : -2147483648 ≤ x) (x2 : x < 2147483648) (l1 : -100000 ≤ lo) (l2 : lo ≤ 100000) (h1 : -100000 ≤ hi) (h2 : hi ≤ 100000) (h : K (.int (iN (b2i (decide (lo ≤ x ∧ x ≤ hi)))), 0) M) : CT l E d m_Mod_isFrom [(.long (iN x).toInt64, 0), (.long (lI lo), 0), (.long (lI hi), 0)] M K := by
  rw [iN_toL x1 x2]
  exact r_isFrom hd (by omega) (by omega) (by omega) (by omega) (by omega) (by omega) h
theorem r_isOwed {l : Launch} {E : EnvT} {d : Nat} {K : AV → Mem → Prop} {M : Mem} {x : Int} (hd : 2 ≤ d) (x1 : -2147483648 ≤ x) (x2 : x < 2147483648) (h : K (.int (iN (b2i (inB x 999))), 0) M) : CT l E d m_Mod_isOwed [(.int (iN x), 0)] M K := by
  refine CT.of pn_Mod (Nat.le_of_ble_eq_true rfl) ?_
  exact b_Mod_isOwed_0 (by omega) (r_isFromI (by omega) x1 x2 (by omega) (by omega) (by omega) (by omega) ⟨bb01 _, h⟩)
theorem r_free {l : Launch} {E : EnvT} {d : Nat} {K : AV → Mem → Prop} {M : Mem} {C Z : Ch} {A : Nat → Int} {a : Int} (hd : 5 ≤ d) (hB : Z 0 21 = 0) (hV : VB C) (hR : RR C A 0) (a1 : -2147483648 ≤ a) (a2 : a < 2147483648) (h : K (.int (iN (livQ C a (freeC C)).1), 0) (zA M (sZ Z (livQ C a (freeC C)).2) A)) : CT l E d m_Mod_free [(.ref 24, 41), (.int (iN a), 0)] (zA M Z A) K := by
  refine CT.of pn_Mod (Nat.le_of_ble_eq_true rfl) ?_
  unfold livQ at h
  refine b_Mod_free_0 (by omega) (r_isLiving (by omega) hB hV hR a1 a2 ?_)
  rw [toI_int, b2i_z]
  refine ⟨fun c => r_refuse (by omega) (by omega) (by omega) ?_, fun c => ?_⟩
  · rw [if_neg (by simp [c])] at h; exact h
  · rw [Bool.not_eq_false] at c
    rw [if_pos c] at h
    have t := livesB_spec c
    obtain ⟨s, rfl⟩ : ∃ s : Nat, a = s := ⟨a.toNat, (by omega)⟩
    exact r_freeOf (by omega) hB hV hR t.2 (r_gives (by omega) h)
theorem r_balance {l : Launch} {E : EnvT} {d : Nat} {K : AV → Mem → Prop} {M : Mem} {C Z : Ch} {A : Nat → Int} {a : Int} (hd : 8 ≤ d) (hB : Z 0 21 = 0) (hW : WC C) (hR : RR C A 0) (a1 : -2147483648 ≤ a) (a2 : a < 2147483648) (h : K (.int (iN (livQ C a (balC C)).1), 0) (zA M (sZ Z (livQ C a (balC C)).2) A)) : CT l E d m_Mod_balance [(.ref 24, 41), (.int (iN a), 0)] (zA M Z A) K := by
  refine CT.of pn_Mod (Nat.le_of_ble_eq_true rfl) ?_
  unfold livQ at h
  refine b_Mod_balance_0 (by omega) (r_isLiving (by omega) hB hW.1 hR a1 a2 ?_)
  rw [toI_int, b2i_z]
  refine ⟨fun c => r_refuse (by omega) (by omega) (by omega) ?_, fun c => ?_⟩
  · rw [if_neg (by simp [c])] at h; exact h
  · rw [Bool.not_eq_false] at c
    rw [if_pos c] at h
    have t := livesB_spec c
    obtain ⟨s, rfl⟩ : ∃ s : Nat, a = s := ⟨a.toNat, (by omega)⟩
    exact r_balanceOf (by omega) hB hW hR t.2 (r_gives (by omega) h)
theorem r_queue {l : Launch} {E : EnvT} {d : Nat} {K : AV → Mem → Prop} {M : Mem} {C Z : Ch} {A : Nat → Int} {a : Int} (hd : 5 ≤ d) (hB : Z 0 21 = 0) (hV : VB C) (hR : RR C A 0) (a1 : -2147483648 ≤ a) (a2 : a < 2147483648) (h : K (.int (iN (livQ C a (fun s => cntN (fun k => C 10 k == (s : Int)) (C 8 3).toNat)).1), 0) (zA M (sZ Z (livQ C a (fun s => cntN (fun k => C 10 k == (s : Int)) (C 8 3).toNat)).2) A)) : CT l E d m_Mod_queue [(.ref 24, 41), (.int (iN a), 0)] (zA M Z A) K := by
  refine CT.of pn_Mod (Nat.le_of_ble_eq_true rfl) ?_
  have hw := hV.w
  have hnn := hV.n
  unfold livQ at h
  refine b_Mod_queue_0 (by omega) (r_isLiving (by omega) hB hV hR a1 a2 ?_)
  rw [toI_int, b2i_z]
  refine ⟨fun c => ?_, fun c => r_refuse (by omega) (by omega) (by omega) ?_⟩
  · rw [Bool.not_eq_false] at c
    rw [if_pos c] at h
    have t := livesB_spec c
    obtain ⟨s, rfl⟩ : ∃ s : Nat, a = s := ⟨a.toNat, (by omega)⟩
    rw [show ((s : Int)).toNat = s from rfl] at h
    obtain ⟨n, hn⟩ : ∃ n : Nat, C 8 3 = n := ⟨(C 8 3).toNat, (by omega)⟩
    rw [hn, show ((n : Int)).toNat = n from rfl] at h
    have key : ∀ k, k ≤ n → G l E d m_Mod_queue 18 [(0, (.ref 24, 41)), (1, (.int (iN s), 0)), (2, (.int (iN (cntN (fun k => C 10 k == (s : Int)) k)), 0)), (3, (.int (iN k), 0))] [] (zA M Z A) K := by
      refine dn n ?_ (fun k hk ih => ?_)
      · refine b_Mod_queue_18 (by omega) ?_
        simp only [zA_1]
        rw [clA (z := 5) (j := 0 + 5) (by omega) (by omega), hR.1.2.2.2.2, hn]
        exact ⟨inA (by omega) (by omega), fun _ => r_gives (by omega) h, fun c => absurd ((iN_le (by omega) (by omega) (by omega) (by omega)).mpr (by omega)) c⟩
      · have q := hR.2.2.2.2 k (by omega)
        have wb := hV.wb k (by omega)
        refine b_Mod_queue_18 (by omega) ?_
        simp only [zA_1, iN_add, iN_mul]
        rw [clA (z := 5) (j := 0 + 5) (by omega) (by omega), hR.1.2.2.2.2, hn, clA (z := (214 : Int) + 3 * k + 1) (j := 0 + 214 + 3 * k + 1) (by omega) (by omega), q.2.1, iN_eq (by omega) (by omega) (by omega) (by omega)]
        refine ⟨inA (by omega) (by omega), fun c => absurd ((iN_le (by omega) (by omega) (by omega) (by omega)).mp c) (by omega), fun _ => ⟨inA (by omega) (by omega), fun c => ?_, fun c => ?_⟩⟩
        · simpa [cntN, b2i, c] using ih
        · simpa [cntN, b2i, c] using ih
    exact key 0 (by omega)
  · rw [if_neg (by simp [c])] at h; exact h
theorem or_0 {m : Nat} (h : m < 256) : iN (m : Int) ||| iN 0 = iN (m : Int) := by
  have := or_two m h 0 (by decide)
  rw [Nat.or_zero] at this
  exact this
theorem r_shorts {l : Launch} {E : EnvT} {d : Nat} {K : AV → Mem → Prop} {M : Mem} {C Z : Ch} {A : Nat → Int} (hd : 9 ≤ d) (hB : Z 0 21 = 0) (hW : WC C) (hR : RR C A 0) (h : K (.int (iN (msk (fun s => decide (0 < lackC C s)) (C 0 8).toNat : Nat)), 0) (zA M (sZ Z 0) A)) : CT l E d m_Mod_shorts [(.ref 24, 41)] (zA M Z A) K := by
  refine CT.of pn_Mod (Nat.le_of_ble_eq_true rfl) ?_
  have hV := hW.1
  have hnn := hV.n
  obtain ⟨n, hn⟩ : ∃ n : Nat, C 0 8 = n := ⟨(C 0 8).toNat, (by omega)⟩
  rw [hn, show ((n : Int)).toNat = n from rfl] at h
  have key : ∀ k, k ≤ n → G l E d m_Mod_shorts 4 [(0, (.ref 24, 41)), (1, (.int (iN (msk (fun s => decide (0 < lackC C s)) k : Nat)), 0)), (2, (.int (iN k), 0))] [] (zA M Z A) K := by
    refine dn n ?_ (fun k hk ih => ?_)
    · refine b_Mod_shorts_4 (by omega) ?_
      simp only [zA_1]
      rw [clA (z := 0) (j := 0 + 0) (by omega) (by omega), hR.1.1, hn]
      exact ⟨inA (by omega) (by omega), fun _ => r_gives (by omega) h, fun c => absurd ((iN_le (by omega) (by omega) (by omega) (by omega)).mpr (by omega)) c⟩
    · refine b_Mod_shorts_4 (by omega) ?_
      simp only [zA_1]
      rw [clA (z := 0) (j := 0 + 0) (by omega) (by omega), hR.1.1, hn]
      refine ⟨inA (by omega) (by omega), fun c => absurd ((iN_le (by omega) (by omega) (by omega) (by omega)).mp c) (by omega), fun _ => r_lackOf (by omega) hB hW hR (by omega) ?_⟩
      have i1 := isOwC_rng hV (s := k) (by omega)
      have i2 := owesC_rng hV (k : Int)
      have i3 := hV.pu k (by omega)
      have lr : 0 ≤ lackC C k ∧ lackC C k ≤ 200000 := by unfold lackC balC; omega
      have ml := msk_lt (fun s => decide (0 < lackC C s)) k (by omega)
      rw [toI_int, iN_le0 (by omega) (by omega), iN_add, or_bit (by omega) (by omega) (by omega), setB_nat, or_0 ml]
      refine ⟨fun c => ?_, fun c => ?_⟩
      · simpa [msk, show ¬ 0 < lackC C k by omega] using ih
      · simpa [msk, show 0 < lackC C k by omega] using ih
  exact b_Mod_shorts_0 (by omega) (key 0 (by omega))
theorem r_lacking {l : Launch} {E : EnvT} {d : Nat} {K : AV → Mem → Prop} {M : Mem} {C Z : Ch} {A : Nat → Int} (hd : 9 ≤ d) (hB : Z 0 21 = 0) (hW : WC C) (hR : RR C A 0) (h : K (.int (iN (sumN (lackC C) (C 0 8).toNat)), 0) (zA M (sZ Z 0) A)) : CT l E d m_Mod_lacking [(.ref 24, 41)] (zA M Z A) K := by
  refine CT.of pn_Mod (Nat.le_of_ble_eq_true rfl) ?_
  have hV := hW.1
  have hnn := hV.n
  obtain ⟨n, hn⟩ : ∃ n : Nat, C 0 8 = n := ⟨(C 0 8).toNat, (by omega)⟩
  rw [hn, show ((n : Int)).toNat = n from rfl] at h
  have key : ∀ k, k ≤ n → G l E d m_Mod_lacking 4 [(0, (.ref 24, 41)), (1, (.int (iN (sumN (lackC C) k)), 0)), (2, (.int (iN k), 0))] [] (zA M Z A) K := by
    refine dn n ?_ (fun k hk ih => ?_)
    · refine b_Mod_lacking_4 (by omega) ?_
      simp only [zA_1]
      rw [clA (z := 0) (j := 0 + 0) (by omega) (by omega), hR.1.1, hn]
      exact ⟨inA (by omega) (by omega), fun _ => r_gives (by omega) h, fun c => absurd ((iN_le (by omega) (by omega) (by omega) (by omega)).mpr (by omega)) c⟩
    · refine b_Mod_lacking_4 (by omega) ?_
      simp only [zA_1]
      rw [clA (z := 0) (j := 0 + 0) (by omega) (by omega), hR.1.1, hn]
      refine ⟨inA (by omega) (by omega), fun c => absurd ((iN_le (by omega) (by omega) (by omega) (by omega)).mp c) (by omega), fun _ => r_lackOf (by omega) hB hW hR (by omega) ?_⟩
      rw [toI_int, iN_add, iN_add]
      exact ih
  exact b_Mod_lacking_0 (by omega) (key 0 (by omega))
/-- what the most so far is, by its place -/
def mAt (f : Nat → Int) (b : Int) : Int := if b = -1 then 0 else f b.toNat
theorem mAt_n (f : Nat → Int) : mAt f (-1) = 0 := rfl
theorem mAt_s (f : Nat → Int) (s : Nat) : mAt f s = f s := by unfold mAt; rw [if_neg (by omega)]; rfl
theorem r_richest {l : Launch} {E : EnvT} {d : Nat} {K : AV → Mem → Prop} {M : Mem} {C Z : Ch} {A : Nat → Int} (hd : 7 ≤ d) (hB : Z 0 21 = 0) (hW : WC C) (hR : RR C A 0) (h : K (.int (iN (ansOr (mostF (measC C 0) (C 0 8).toNat 0 (-1) 0) 6).1), 0) (zA M (sZ Z (ansOr (mostF (measC C 0) (C 0 8).toNat 0 (-1) 0) 6).2) A)) : CT l E d m_Mod_richest [(.ref 24, 41)] (zA M Z A) K := by
  refine CT.of pn_Mod (Nat.le_of_ble_eq_true rfl) ?_
  have hV := hW.1
  have hnn := hV.n
  obtain ⟨n, hn⟩ : ∃ n : Nat, C 0 8 = n := ⟨(C 0 8).toNat, (by omega)⟩
  rw [hn, show ((n : Int)).toNat = n from rfl] at h
  have em : ∀ s, measC C 0 s = isOwC C s := fun s => by unfold measC; rw [if_pos rfl]
  have key : ∀ (k s : Nat) (b : Int), s + k = n → -1 ≤ b → b < s → mostF (measC C 0) n 0 (-1) 0 = mostF (measC C 0) k s b (mAt (measC C 0) b) → G l E d m_Mod_richest 4 [(0, (.ref 24, 41)), (1, (.int (iN b), 0)), (2, (.int (iN s), 0))] [] (zA M Z A) K := by
    intro k
    induction k with
    | zero =>
      intro s b hs b1 b2 he
      refine b_Mod_richest_4 (by omega) ?_
      simp only [zA_1]
      rw [clA (z := 0) (j := 0 + 0) (by omega) (by omega), hR.1.1, hn]
      refine ⟨inA (by omega) (by omega), fun _ => r_orNone (by omega) (by omega) (by omega) ?_, fun c => absurd ((iN_le (by omega) (by omega) (by omega) (by omega)).mpr (by omega)) c⟩
      rw [he] at h
      exact h
    | succ k ih =>
      intro s b hs b1 b2 he
      have mr := isOwC_rng hV (s := s) (by omega)
      have he : _ = (if mAt (measC C 0) b < measC C 0 s then mostF (measC C 0) k (s + 1) s (measC C 0 s) else mostF (measC C 0) k (s + 1) b (mAt (measC C 0) b)) := he
      refine b_Mod_richest_4 (by omega) ?_
      simp only [zA_1]
      rw [clA (z := 0) (j := 0 + 0) (by omega) (by omega), hR.1.1, hn]
      refine ⟨inA (by omega) (by omega), fun c => absurd ((iN_le (by omega) (by omega) (by omega) (by omega)).mp c) (by omega), fun _ => r_owedAll (by omega) hB hW hR (by omega) ?_⟩
      rw [toI_int, iN_eq (by omega) (by omega) (by omega) (by omega), iN_add]
      have take : mAt (measC C 0) b < measC C 0 s → G l E d m_Mod_richest 4 [(0, (.ref 24, 41)), (1, (.int (iN s), 0)), (2, (.int (iN ((s : Int) + 1)), 0))] [] (zA M Z A) K := by
        intro c
        rw [if_pos c, ← mAt_s (measC C 0) s] at he
        exact ih (s + 1) s (by omega) (by omega) (by omega) he
      have keep : ¬ mAt (measC C 0) b < measC C 0 s → G l E d m_Mod_richest 4 [(0, (.ref 24, 41)), (1, (.int (iN b), 0)), (2, (.int (iN ((s : Int) + 1)), 0))] [] (zA M Z A) K := by
        intro c
        rw [if_neg c] at he
        exact ih (s + 1) b (by omega) (by omega) (by omega) he
      refine ⟨fun c => ?_, fun c => ?_⟩
      · obtain ⟨t, rfl⟩ : ∃ t : Nat, b = t := ⟨b.toNat, (by omega)⟩
        have mt := isOwC_rng hV (s := t) (by omega)
        rw [mAt_s, em, em] at take keep
        refine r_owedAll (by omega) hB hW hR (by omega) ?_
        rw [toI_int, iN_le (by omega) (by omega) (by omega) (by omega)]
        exact ⟨fun c2 => keep (by omega), fun c2 => take (by omega)⟩
      · rw [c, mAt_n, em] at take
        rw [c] at keep ⊢
        rw [mAt_n, em] at keep
        rw [iN_le (by omega) (by omega) (by omega) (by omega)]
        exact ⟨fun c2 => keep (by omega), fun c2 => take (by omega)⟩
  exact b_Mod_richest_0 (by omega) (key n 0 (-1) (by omega) (by omega) (by omega) rfl)
theorem r_deepest {l : Launch} {E : EnvT} {d : Nat} {K : AV → Mem → Prop} {M : Mem} {C Z : Ch} {A : Nat → Int} (hd : 7 ≤ d) (hB : Z 0 21 = 0) (hW : WC C) (hR : RR C A 0) (h : K (.int (iN (ansOr (mostF (measC C 1) (C 0 8).toNat 0 (-1) 0) 6).1), 0) (zA M (sZ Z (ansOr (mostF (measC C 1) (C 0 8).toNat 0 (-1) 0) 6).2) A)) : CT l E d m_Mod_deepest [(.ref 24, 41)] (zA M Z A) K := by
  refine CT.of pn_Mod (Nat.le_of_ble_eq_true rfl) ?_
  have hV := hW.1
  have hnn := hV.n
  obtain ⟨n, hn⟩ : ∃ n : Nat, C 0 8 = n := ⟨(C 0 8).toNat, (by omega)⟩
  rw [hn, show ((n : Int)).toNat = n from rfl] at h
  have em : ∀ s, measC C 1 s = owesC C s := fun s => by unfold measC; rw [if_neg (by decide), if_pos rfl]
  have key : ∀ (k s : Nat) (b : Int), s + k = n → -1 ≤ b → b < s → mostF (measC C 1) n 0 (-1) 0 = mostF (measC C 1) k s b (mAt (measC C 1) b) → G l E d m_Mod_deepest 4 [(0, (.ref 24, 41)), (1, (.int (iN b), 0)), (2, (.int (iN s), 0))] [] (zA M Z A) K := by
    intro k
    induction k with
    | zero =>
      intro s b hs b1 b2 he
      refine b_Mod_deepest_4 (by omega) ?_
      simp only [zA_1]
      rw [clA (z := 0) (j := 0 + 0) (by omega) (by omega), hR.1.1, hn]
      refine ⟨inA (by omega) (by omega), fun _ => r_orNone (by omega) (by omega) (by omega) ?_, fun c => absurd ((iN_le (by omega) (by omega) (by omega) (by omega)).mpr (by omega)) c⟩
      rw [he] at h
      exact h
    | succ k ih =>
      intro s b hs b1 b2 he
      have mr := owesC_rng hV (s : Int)
      have he : _ = (if mAt (measC C 1) b < measC C 1 s then mostF (measC C 1) k (s + 1) s (measC C 1 s) else mostF (measC C 1) k (s + 1) b (mAt (measC C 1) b)) := he
      refine b_Mod_deepest_4 (by omega) ?_
      simp only [zA_1]
      rw [clA (z := 0) (j := 0 + 0) (by omega) (by omega), hR.1.1, hn]
      refine ⟨inA (by omega) (by omega), fun c => absurd ((iN_le (by omega) (by omega) (by omega) (by omega)).mp c) (by omega), fun _ => r_owesAll (by omega) hB hW hR (by omega) ?_⟩
      rw [toI_int, iN_eq (by omega) (by omega) (by omega) (by omega), iN_add]
      have take : mAt (measC C 1) b < measC C 1 s → G l E d m_Mod_deepest 4 [(0, (.ref 24, 41)), (1, (.int (iN s), 0)), (2, (.int (iN ((s : Int) + 1)), 0))] [] (zA M Z A) K := by
        intro c
        rw [if_pos c, ← mAt_s (measC C 1) s] at he
        exact ih (s + 1) s (by omega) (by omega) (by omega) he
      have keep : ¬ mAt (measC C 1) b < measC C 1 s → G l E d m_Mod_deepest 4 [(0, (.ref 24, 41)), (1, (.int (iN b), 0)), (2, (.int (iN ((s : Int) + 1)), 0))] [] (zA M Z A) K := by
        intro c
        rw [if_neg c] at he
        exact ih (s + 1) b (by omega) (by omega) (by omega) he
      refine ⟨fun c => ?_, fun c => ?_⟩
      · obtain ⟨t, rfl⟩ : ∃ t : Nat, b = t := ⟨b.toNat, (by omega)⟩
        have mt := owesC_rng hV (t : Int)
        rw [mAt_s, em, em] at take keep
        refine r_owesAll (by omega) hB hW hR (by omega) ?_
        rw [toI_int, iN_le (by omega) (by omega) (by omega) (by omega)]
        exact ⟨fun c2 => keep (by omega), fun c2 => take (by omega)⟩
      · rw [c, mAt_n, em] at take
        rw [c] at keep ⊢
        rw [mAt_n, em] at keep
        rw [iN_le (by omega) (by omega) (by omega) (by omega)]
        exact ⟨fun c2 => keep (by omega), fun c2 => take (by omega)⟩
  exact b_Mod_deepest_0 (by omega) (key n 0 (-1) (by omega) (by omega) (by omega) rfl)
theorem r_roomiest {l : Launch} {E : EnvT} {d : Nat} {K : AV → Mem → Prop} {M : Mem} {C Z : Ch} {A : Nat → Int} (hd : 7 ≤ d) (hB : Z 0 21 = 0) (hW : WC C) (hR : RR C A 0) (h : K (.int (iN (ansOr (mostF (measC C 2) (C 0 8).toNat 0 (-1) 0) 6).1), 0) (zA M (sZ Z (ansOr (mostF (measC C 2) (C 0 8).toNat 0 (-1) 0) 6).2) A)) : CT l E d m_Mod_roomiest [(.ref 24, 41)] (zA M Z A) K := by
  refine CT.of pn_Mod (Nat.le_of_ble_eq_true rfl) ?_
  have hV := hW.1
  have hnn := hV.n
  obtain ⟨n, hn⟩ : ∃ n : Nat, C 0 8 = n := ⟨(C 0 8).toNat, (by omega)⟩
  rw [hn, show ((n : Int)).toNat = n from rfl] at h
  have em : ∀ s : Nat, measC C 2 s = if livesB C s = true then freeC C s else 0 := fun s => by unfold measC; rw [if_neg (by decide), if_neg (by decide)]
  have key : ∀ (k s : Nat) (b : Int), s + k = n → -1 ≤ b → b < s → (b = -1 ∨ livesB C b = true) → mostF (measC C 2) n 0 (-1) 0 = mostF (measC C 2) k s b (mAt (measC C 2) b) → G l E d m_Mod_roomiest 4 [(0, (.ref 24, 41)), (1, (.int (iN b), 0)), (2, (.int (iN s), 0))] [] (zA M Z A) K := by
    intro k
    induction k with
    | zero =>
      intro s b hs b1 b2 bl he
      refine b_Mod_roomiest_4 (by omega) ?_
      simp only [zA_1]
      rw [clA (z := 0) (j := 0 + 0) (by omega) (by omega), hR.1.1, hn]
      refine ⟨inA (by omega) (by omega), fun _ => r_orNone (by omega) (by omega) (by omega) ?_, fun c => absurd ((iN_le (by omega) (by omega) (by omega) (by omega)).mpr (by omega)) c⟩
      rw [he] at h
      exact h
    | succ k ih =>
      intro s b hs b1 b2 bl he
      have mr := freeC_rng C hV (s := s) (by omega)
      have he : _ = (if mAt (measC C 2) b < measC C 2 s then mostF (measC C 2) k (s + 1) s (measC C 2 s) else mostF (measC C 2) k (s + 1) b (mAt (measC C 2) b)) := he
      have mb : 0 ≤ mAt (measC C 2) b := by
        unfold mAt
        split
        · omega
        · exact (measC_rng hV 2 (s := b.toNat) (by omega)).1
      refine b_Mod_roomiest_4 (by omega) ?_
      simp only [zA_1]
      rw [clA (z := 0) (j := 0 + 0) (by omega) (by omega), hR.1.1, hn]
      refine ⟨inA (by omega) (by omega), fun c => absurd ((iN_le (by omega) (by omega) (by omega) (by omega)).mp c) (by omega), fun _ => c_isDead (by omega) hB hV hR (by omega) ?_⟩
      rw [toI_int, b2i_z, iN_eq (by omega) (by omega) (by omega) (by omega), iN_add]
      have keep : ¬ mAt (measC C 2) b < measC C 2 s → G l E d m_Mod_roomiest 4 [(0, (.ref 24, 41)), (1, (.int (iN b), 0)), (2, (.int (iN ((s : Int) + 1)), 0))] [] (zA M Z A) K := by
        intro c
        rw [if_neg c] at he
        exact ih (s + 1) b (by omega) (by omega) (by omega) bl he
      refine ⟨fun c => keep ?_, fun c => ?_⟩
      · rw [em, if_neg]
        · omega
        · intro q
          have := (livesB_alv q).2
          unfold alv at this
          rw [show ((s : Int)).toNat = s from rfl] at this
          exact c this
      · have ls : livesB C s = true := livesB_iff.mpr ⟨⟨(by omega), (by omega)⟩, c⟩
        have ems : measC C 2 s = freeC C s := by rw [em, if_pos ls]
        have take : mAt (measC C 2) b < measC C 2 s → G l E d m_Mod_roomiest 4 [(0, (.ref 24, 41)), (1, (.int (iN s), 0)), (2, (.int (iN ((s : Int) + 1)), 0))] [] (zA M Z A) K := by
          intro c
          rw [if_pos c, ← mAt_s (measC C 2) s] at he
          exact ih (s + 1) s (by omega) (by omega) (by omega) (Or.inr ls) he
        refine r_freeOf (by omega) hB hV hR (by omega) ?_
        rw [toI_int]
        refine ⟨fun c2 => ?_, fun c2 => ?_⟩
        · obtain ⟨t, rfl⟩ : ∃ t : Nat, b = t := ⟨b.toNat, (by omega)⟩
          have mt := freeC_rng C hV (s := t) (by omega)
          have lt : livesB C t = true := by
            rcases bl with q | q
            · omega
            · exact q
          have emt : measC C 2 t = freeC C t := by rw [em, if_pos lt]
          rw [mAt_s, emt, ems] at take keep
          refine r_freeOf (by omega) hB hV hR (by omega) ?_
          rw [toI_int, iN_le (by omega) (by omega) (by omega) (by omega)]
          exact ⟨fun c3 => keep (by omega), fun c3 => take (by omega)⟩
        · rw [c2, mAt_n, ems] at take
          rw [c2] at keep ⊢
          rw [mAt_n, ems] at keep
          rw [iN_le (by omega) (by omega) (by omega) (by omega)]
          exact ⟨fun c3 => keep (by omega), fun c3 => take (by omega)⟩
  exact b_Mod_roomiest_0 (by omega) (key n 0 (-1) (by omega) (by omega) (by omega) (Or.inl rfl) rfl)
theorem r_falsest {l : Launch} {E : EnvT} {d : Nat} {K : AV → Mem → Prop} {M : Mem} {C Z : Ch} {A : Nat → Int} {a : Int} (hd : 5 ≤ d) (hB : Z 0 21 = 0) (hV : VB C) (hR : RR C A 0) (a1 : -2147483648 ≤ a) (a2 : a < 2147483648) (hn : livesB C a = false → K (.int (iN (-1)), 0) (zA M (sZ Z 1) A)) (h : livesB C a = true → K (.int (iN (ansOr (mostF (fun k => C 7 (6 * a.toNat + k)) (C 4 a.toNat).toNat 0 (-1) 0) 6).1), 0) (zA M (sZ Z (ansOr (mostF (fun k => C 7 (6 * a.toNat + k)) (C 4 a.toNat).toNat 0 (-1) 0) 6).2) A)) : CT l E d m_Mod_falsest [(.ref 24, 41), (.int (iN a), 0)] (zA M Z A) K := by
  refine CT.of pn_Mod (Nat.le_of_ble_eq_true rfl) ?_
  have hnn := hV.n
  refine b_Mod_falsest_0 (by omega) (r_isLiving (by omega) hB hV hR a1 a2 ?_)
  rw [toI_int, b2i_z]
  refine ⟨fun c => ?_, fun c => r_refuse (by omega) (by omega) (by omega) (hn c)⟩
  rw [Bool.not_eq_false] at c
  have h := h c
  have t := livesB_spec c
  obtain ⟨s, rfl⟩ : ∃ s : Nat, a = s := ⟨a.toNat, (by omega)⟩
  rw [show ((s : Int)).toNat = s from rfl] at h
  have le := hV.le s (by omega)
  have rs := hR.2.1 s t.2
  obtain ⟨n, hl⟩ : ∃ n : Nat, C 4 s = n := ⟨(C 4 s).toNat, (by omega)⟩
  rw [hl, show ((n : Int)).toNat = n from rfl] at h
  have dv : ∀ j, j < n → 0 ≤ C 7 (6 * s + j) ∧ C 7 (6 * s + j) ≤ 999 := fun j hj => hV.de _ (by omega)
  have dA : ∀ j, j < n → A (0 + 166 + (6 * s + j)) = C 7 (6 * s + j) := fun j hj => (hR.2.2.2.1 (6 * s + j) (by omega)).2
  generalize hf : (fun k => C 7 (6 * s + k)) = f at h
  have fe : ∀ j, C 7 (6 * s + j) = f j := fun j => by rw [← hf]
  have key : ∀ (k j : Nat) (b : Int), j + k = n → -1 ≤ b → b < j → mostF f n 0 (-1) 0 = mostF f k j b (mAt f b) → G l E d m_Mod_falsest 18 [(0, (.ref 24, 41)), (1, (.int (iN s), 0)), (2, (.int (iN b), 0)), (3, (.int (iN j), 0))] [] (zA M Z A) K := by
    intro k
    induction k with
    | zero =>
      intro j b hs b1 b2 he
      refine b_Mod_falsest_18 (by omega) (c_of (B := 0) (w := 1) (by omega) hB (by omega) (by omega) (by omega) ?_)
      rw [rs.2.1, hl, toI_int]
      refine ⟨fun _ => r_orNone (by omega) (by omega) (by omega) ?_, fun c => absurd ((iN_le (by omega) (by omega) (by omega) (by omega)).mpr (by omega)) c⟩
      rw [he] at h
      exact h
    | succ k ih =>
      intro j b hs b1 b2 he
      have mr := dv j (by omega)
      have he : _ = (if mAt f b < f j then mostF f k (j + 1) j (f j) else mostF f k (j + 1) b (mAt f b)) := he
      refine b_Mod_falsest_18 (by omega) (c_of (B := 0) (w := 1) (by omega) hB (by omega) (by omega) (by omega) ?_)
      rw [rs.2.1, hl, toI_int]
      refine ⟨fun c => absurd ((iN_le (by omega) (by omega) (by omega) (by omega)).mp c) (by omega), fun _ => c_debtAt (B := 0) (by omega) hB (by omega) (by omega) (by omega) ?_⟩
      rw [dA j (by omega), toI_int, iN_eq (by omega) (by omega) (by omega) (by omega), iN_add]
      have take : mAt f b < f j → G l E d m_Mod_falsest 18 [(0, (.ref 24, 41)), (1, (.int (iN s), 0)), (2, (.int (iN j), 0)), (3, (.int (iN ((j : Int) + 1)), 0))] [] (zA M Z A) K := by
        intro c
        rw [if_pos c, ← mAt_s f j] at he
        exact ih (j + 1) j (by omega) (by omega) (by omega) he
      have keep : ¬ mAt f b < f j → G l E d m_Mod_falsest 18 [(0, (.ref 24, 41)), (1, (.int (iN s), 0)), (2, (.int (iN b), 0)), (3, (.int (iN ((j : Int) + 1)), 0))] [] (zA M Z A) K := by
        intro c
        rw [if_neg c] at he
        exact ih (j + 1) b (by omega) (by omega) (by omega) he
      refine ⟨fun c => ?_, fun c => ?_⟩
      · obtain ⟨t, rfl⟩ : ∃ t : Nat, b = t := ⟨b.toNat, (by omega)⟩
        have mt := dv t (by omega)
        rw [mAt_s, ← fe, ← fe] at take keep
        refine c_debtAt (B := 0) (by omega) hB (by omega) (by omega) (by omega) ?_
        rw [dA t (by omega), toI_int, iN_le (by omega) (by omega) (by omega) (by omega)]
        exact ⟨fun c2 => keep (by omega), fun c2 => take (by omega)⟩
      · rw [c, mAt_n, ← fe] at take
        rw [c] at keep ⊢
        rw [mAt_n, ← fe] at keep
        rw [iN_le (by omega) (by omega) (by omega) (by omega)]
        exact ⟨fun c2 => keep (by omega), fun c2 => take (by omega)⟩
  exact key n 0 (-1) (by omega) (by omega) (by omega) rfl
theorem r_whose {l : Launch} {E : EnvT} {d : Nat} {K : AV → Mem → Prop} {M : Mem} {C Z : Ch} {A : Nat → Int} {a b : Int} (hd : 5 ≤ d) (hB : Z 0 21 = 0) (hV : VB C) (hR : RR C A 0) (a1 : -2147483648 ≤ a) (a2 : a < 2147483648) (b1 : -2147483648 ≤ b) (b2 : b < 2147483648) (hn : ¬ (livesB C a = true ∧ 1 ≤ b ∧ b ≤ 999) → K (.int (iN (-1)), 0) (zA M (sZ Z 1) A)) (h6 : livesB C a = true → 1 ≤ b → b ≤ 999 → fnd (fun k => C 7 (6 * a.toNat + k) == b) (C 4 a.toNat).toNat = -1 → K (.int (iN (-1)), 0) (zA M (sZ Z 6) A)) (hy : livesB C a = true → 1 ≤ b → b ≤ 999 → ∀ j : Nat, fnd (fun k => C 7 (6 * a.toNat + k) == b) (C 4 a.toNat).toNat = j → K (.int (iN (C 6 (6 * a.toNat + j))), 0) (zA M (sZ Z 0) A)) : CT l E d m_Mod_whose [(.ref 24, 41), (.int (iN a), 0), (.int (iN b), 0)] (zA M Z A) K := by
  refine CT.of pn_Mod (Nat.le_of_ble_eq_true rfl) ?_
  have hnn := hV.n
  refine b_Mod_whose_0 (by omega) (r_isLiving (by omega) hB hV hR a1 a2 ?_)
  rw [toI_int, b2i_z]
  refine ⟨fun c => r_refuse (by omega) (by omega) (by omega) (hn (fun q => by rw [c] at q; exact absurd q.1 (by decide))), fun c => r_isFromI (by omega) b1 b2 (by omega) (by omega) (by omega) (by omega) ?_⟩
  rw [Bool.not_eq_false] at c
  rw [toI_int, b2i_z, decide_eq_false_iff_not]
  refine ⟨fun c2 => ?_, fun c2 => r_refuse (by omega) (by omega) (by omega) (hn (fun q => c2 q.2))⟩
  have c2 : 1 ≤ b ∧ b ≤ 999 := Decidable.not_not.mp c2
  have h6 := h6 c c2.1 c2.2
  have hy := hy c c2.1 c2.2
  have t := livesB_spec c
  obtain ⟨s, rfl⟩ : ∃ s : Nat, a = s := ⟨a.toNat, (by omega)⟩
  rw [show ((s : Int)).toNat = s from rfl] at h6 hy
  have le := hV.le s (by omega)
  have rs := hR.2.1 s t.2
  obtain ⟨n, hl⟩ : ∃ n : Nat, C 4 s = n := ⟨(C 4 s).toNat, (by omega)⟩
  rw [hl, show ((n : Int)).toNat = n from rfl] at h6 hy
  have key : ∀ (k j : Nat), j + k = n → fnd (fun k => C 7 (6 * s + k) == b) n = fndF (fun k => C 7 (6 * s + k) == b) j k → G l E d m_Mod_whose 28 [(0, (.ref 24, 41)), (1, (.int (iN s), 0)), (2, (.int (iN b), 0)), (3, (.int (iN j), 0))] [] (zA M Z A) K := by
    intro k
    induction k with
    | zero =>
      intro j hs he
      refine b_Mod_whose_28 (by omega) (c_of (B := 0) (w := 1) (by omega) hB (by omega) (by omega) (by omega) ?_)
      rw [rs.2.1, hl, toI_int]
      exact ⟨fun _ => r_refuse (by omega) (by omega) (by omega) (h6 he), fun c => absurd ((iN_le (by omega) (by omega) (by omega) (by omega)).mpr (by omega)) c⟩
    | succ k ih =>
      intro j hs he
      have mr := hV.de (6 * s + j) (by omega)
      have hh := hR.2.2.2.1 (6 * s + j) (by omega)
      have he : _ = (if (C 7 (6 * s + j) == b) = true then (j : Int) else fndF (fun k => C 7 (6 * s + k) == b) (j + 1) k) := he
      refine b_Mod_whose_28 (by omega) (c_of (B := 0) (w := 1) (by omega) hB (by omega) (by omega) (by omega) ?_)
      rw [rs.2.1, hl, toI_int]
      refine ⟨fun c => absurd ((iN_le (by omega) (by omega) (by omega) (by omega)).mp c) (by omega), fun _ => c_debtAt (B := 0) (by omega) hB (by omega) (by omega) (by omega) ?_⟩
      rw [hh.2, toI_int, iN_eq (by omega) (by omega) (by omega) (by omega), iN_add]
      refine ⟨fun c => ih (j + 1) (by omega) ?_, fun c => c_holderOf (B := 0) (by omega) hB (by omega) (by omega) (by omega) ?_⟩
      · rw [if_neg (by simp [c])] at he; exact he
      · rw [if_pos (by simp [c])] at he
        rw [hh.1]; exact r_gives (by omega) (hy j he)
  exact key n 0 (by omega) rfl
