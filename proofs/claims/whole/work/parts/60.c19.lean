theorem mm_r (M : Mem) {r rc : Nat} (L C : Ch) (h : r ≠ rc) : setR (setR M r L) rc C r = L := by rw [setR_ne _ _ h, setR_same]
theorem mm_o (M : Mem) {r rc q : Nat} (L C : Ch) (h1 : q ≠ r) (h2 : q ≠ rc) : setR (setR M r L) rc C q = M q := by rw [setR_ne _ _ h2, setR_ne _ _ h1]
theorem mm_upd (M : Mem) {r rc : Nat} (L C : Ch) (c k : Nat) (v : Int) (h : r ≠ rc) : upd3 (setR (setR M r L) rc C) r c k v = setR (setR M r (upd2 L c k v)) rc C := by
  rw [upd3_setR, mm_r _ _ _ h]
  funext q
  unfold setR
  by_cases e : q = r
  · subst e; simp [h]
  · by_cases e2 : q = rc
    · subst e2; simp [e]
    · simp [e, e2]
def drawV (x : Int) : Int := (x * 2971 + 11173) % 65536
theorem drawV_rng (x : Int) : 0 ≤ drawV x ∧ drawV x < 65536 := ⟨Int.emod_nonneg _ (by decide), Int.emod_lt_of_pos _ (by decide)⟩
theorem c_draw {l : Launch} {E : EnvT} {d : Nat} {K : AV → Mem → Prop} {M : Mem} {r rc : Nat} {L C : Ch} {n : Int} (hd : 1 ≤ d) (hr : r ≠ rc) (l1 : 0 ≤ L 0 8) (l2 : L 0 8 < 65536) (n1 : 1 ≤ n) (n2 : n ≤ 100) (h : K (.int (iN (drawV (L 0 8) / 8 % n)), 0) (setR (setR M r (upd2 L 0 8 (drawV (L 0 8)))) rc C)) : CT l E d m_Life_draw [(.ref r, 37), (.int (iN n), 0)] (setR (setR M r L) rc C) K := by
  refine CT.of pn_Life (Nat.le_of_ble_eq_true rfl) ?_
  refine b_Life_draw_0 hd ?_
  have dr := drawV_rng (L 0 8)
  have e : iR (iN (L 0 8) * iN 2971 + iN 11173) (iN 65536) = iN (drawV (L 0 8)) := by
    rw [iN_mul, iN_add, iN_rem (by omega) (by omega) (by omega) (by omega)]
    rfl
  rw [mm_r _ _ _ hr, e, iN_small (by omega) (by omega), mm_upd _ _ _ _ _ _ hr, mm_r _ _ _ hr, upd2_same, iN_div (by omega) (by omega) (by omega) (by omega)]
  have d1 : 0 ≤ drawV (L 0 8) / 8 := Int.ediv_nonneg (by omega) (by omega)
  have d2 : drawV (L 0 8) / 8 < 8192 := (by omega)
  rw [iN_rem d1 (by omega) (by omega) (by omega), iN_0lt (by omega) (by omega), iN_eq0 (by omega) (by omega)]
  exact ⟨by decide, fun _ => ⟨by decide, fun e => absurd ((iN_eq0 (by omega) (by omega)).mp e) (by omega), h⟩, fun c => (by omega)⟩
def LI (L : Ch) : Prop := (0 ≤ L 0 2 ∧ L 0 2 ≤ 300) ∧ (L 0 7 = 0 ∨ L 0 7 = 1) ∧ (0 ≤ L 0 8 ∧ L 0 8 < 65536) ∧ ∀ i, i < 60 → -1 ≤ L 1 i ∧ L 1 i ≤ 9999
theorem LI.f {L : Ch} (h : LI L) (k : Nat) (v : Int) (h2 : k ≠ 2) (h7 : k ≠ 7) (h8 : k ≠ 8) : LI (upd2 L 0 k v) := by
  obtain ⟨a, b, c, e⟩ := h
  refine ⟨?_, ?_, ?_, ?_⟩
  · rw [upd2_k _ _ (Ne.symm h2)]; exact a
  · rw [upd2_k _ _ (Ne.symm h7)]; exact b
  · rw [upd2_k _ _ (Ne.symm h8)]; exact c
  · rw [upd2_c _ _ (by decide)]; exact e
theorem LI.f8 {L : Ch} (h : LI L) (v : Int) (v1 : 0 ≤ v) (v2 : v < 65536) : LI (upd2 L 0 8 v) := by
  obtain ⟨a, b, c, e⟩ := h
  refine ⟨?_, ?_, ?_, ?_⟩
  · rw [upd2_k _ _ (by decide)]; exact a
  · rw [upd2_k _ _ (by decide)]; exact b
  · rw [upd2_same]; exact ⟨v1, v2⟩
  · rw [upd2_c _ _ (by decide)]; exact e
theorem LI.f2 {L : Ch} (h : LI L) (v : Int) (v1 : 0 ≤ v) (v2 : v ≤ 300) : LI (upd2 L 0 2 v) := by
  obtain ⟨a, b, c, e⟩ := h
  refine ⟨?_, ?_, ?_, ?_⟩
  · rw [upd2_same]; exact ⟨v1, v2⟩
  · rw [upd2_k _ _ (by decide)]; exact b
  · rw [upd2_k _ _ (by decide)]; exact c
  · rw [upd2_c _ _ (by decide)]; exact e
theorem LI.f7 {L : Ch} (h : LI L) (v : Int) (hv : v = 0 ∨ v = 1) : LI (upd2 L 0 7 v) := by
  obtain ⟨a, b, c, e⟩ := h
  refine ⟨?_, ?_, ?_, ?_⟩
  · rw [upd2_k _ _ (by decide)]; exact a
  · rw [upd2_same]; exact hv
  · rw [upd2_k _ _ (by decide)]; exact c
  · rw [upd2_c _ _ (by decide)]; exact e
theorem LI.t {L : Ch} (h : LI L) (k : Nat) (v : Int) (v1 : -1 ≤ v) (v2 : v ≤ 9999) : LI (upd2 L 1 k v) := by
  obtain ⟨a, b, c, e⟩ := h
  refine ⟨?_, ?_, ?_, fun i hi => ?_⟩
  · rw [upd2_c _ _ (by decide)]; exact a
  · rw [upd2_c _ _ (by decide)]; exact b
  · rw [upd2_c _ _ (by decide)]; exact c
  · rw [upd2_at]
    split
    · exact ⟨v1, v2⟩
    · exact e i hi
theorem livAt_rng (C : Ch) : ∀ (m s : Nat) (k : Int), -1 ≤ livAt C s m k ∧ livAt C s m k < s + m
  | 0, s, k => ⟨show (-1 : Int) ≤ -1 by omega, show (-1 : Int) < (s : Int) + (0 : Nat) by omega⟩
  | m + 1, s, k => by
    unfold livAt
    have h1 := livAt_rng C m (s + 1) (k - 1)
    have h2 := livAt_rng C m (s + 1) k
    split
    · split <;> omega
    · omega
def manyC (C : Ch) : Int := C 0 8 - popc (C 0 12).toNat
def anyC (L C : Ch) : Bool × Ch × Ch :=
  if 0 < manyC C then
    ((lendC C (livAt C 0 (C 0 8).toNat (drawV (L 0 8) / 8 % manyC C)) (livAt C 0 (C 0 8).toNat (drawV (drawV (L 0 8)) / 8 % manyC C)) (drawV (drawV (drawV (L 0 8))) / 8 % 20 + 1)).1,
     upd2 (upd2 L 0 8 (drawV (drawV (drawV (L 0 8))))) 0 4 (wr (L 0 4 + if (lendC C (livAt C 0 (C 0 8).toNat (drawV (L 0 8) / 8 % manyC C)) (livAt C 0 (C 0 8).toNat (drawV (drawV (L 0 8)) / 8 % manyC C)) (drawV (drawV (drawV (L 0 8))) / 8 % 20 + 1)).1 then drawV (drawV (drawV (L 0 8))) / 8 % 20 + 1 else 0)),
     (lendC C (livAt C 0 (C 0 8).toNat (drawV (L 0 8) / 8 % manyC C)) (livAt C 0 (C 0 8).toNat (drawV (drawV (L 0 8)) / 8 % manyC C)) (drawV (drawV (drawV (L 0 8))) / 8 % 20 + 1)).2)
  else (false, L, C)
theorem wr_iN (x y : Int) : (iN x + iN y).toInt = wr (x + y) := by rw [iN_add]; rfl
theorem upd2_twice (C : Ch) (c k : Nat) (v w : Int) : upd2 (upd2 C c k v) c k w = upd2 C c k w := by
  funext c' k'
  unfold upd2
  split <;> rfl
theorem c_lendAny {l : Launch} {E : EnvT} {d : Nat} {K : AV → Mem → Prop} {M : Mem} {r rc : Nat} {L C : Ch} (hd : 4 ≤ d) (hr : r ≠ rc) (hV : VB C) (hL : LI L) (h : K (.int (iN (b2i (anyC L C).1)), 0) (setR (setR M r (anyC L C).2.1) rc (anyC L C).2.2)) : CT l E d m_Life_lendAny [(.ref r, 37), (.ref rc, 11)] (setR (setR M r L) rc C) K := by
  refine CT.of pn_Life (Nat.le_of_ble_eq_true rfl) ?_
  refine b_Life_lendAny_0 (by omega) (c_livingCount (by omega) (by rw [setR_same]; exact hV) ?_)
  have hn := hV.n
  have p1 := popc_lo (C 0 12).toNat
  have p2 := popc_hi (C 0 12).toNat
  have l8 := hL.2.2.1
  rw [setR_same, toI_int, show C 0 8 - popc (C 0 12).toNat = manyC C from rfl]
  have m2 : -8 ≤ manyC C ∧ manyC C ≤ 8 := by unfold manyC; omega
  unfold anyC at h
  rw [iN_0lt (by omega) (by omega)]
  refine ⟨fun c => ?_, fun c => ⟨z01, ?_⟩⟩
  · rw [if_pos c] at h
    have d1 := drawV_rng (L 0 8)
    have d2 := drawV_rng (drawV (L 0 8))
    have d3 := drawV_rng (drawV (drawV (L 0 8)))
    have q1 : 0 ≤ drawV (L 0 8) / 8 % manyC C ∧ drawV (L 0 8) / 8 % manyC C < manyC C := ⟨Int.emod_nonneg _ (by omega), Int.emod_lt_of_pos _ c⟩
    have q2 : 0 ≤ drawV (drawV (L 0 8)) / 8 % manyC C ∧ drawV (drawV (L 0 8)) / 8 % manyC C < manyC C := ⟨Int.emod_nonneg _ (by omega), Int.emod_lt_of_pos _ c⟩
    have q3 : 0 ≤ drawV (drawV (drawV (L 0 8))) / 8 % 20 ∧ drawV (drawV (drawV (L 0 8))) / 8 % 20 < 20 := ⟨Int.emod_nonneg _ (by omega), Int.emod_lt_of_pos _ (by omega)⟩
    refine c_draw (by omega) hr l8.1 l8.2 (by omega) (by omega) ?_
    rw [toI_int]
    refine c_livingAt (by omega) (by rw [setR_same]; exact hV) q1.1 (by omega) ?_
    rw [toI_int, setR_same]
    refine c_draw (by omega) hr (by rw [upd2_same]; exact d1.1) (by rw [upd2_same]; exact d1.2) (by omega) (by omega) ?_
    rw [toI_int, upd2_same, upd2_twice]
    refine c_livingAt (by omega) (by rw [setR_same]; exact hV) q2.1 (by omega) ?_
    rw [toI_int, setR_same]
    refine c_draw (by omega) hr (by rw [upd2_same]; exact d2.1) (by rw [upd2_same]; exact d2.2) (by omega) (by omega) ?_
    rw [toI_int, upd2_same, upd2_twice, iN_add]
    have r1 := livAt_rng C (C 0 8).toNat 0 (drawV (L 0 8) / 8 % manyC C)
    have r2 := livAt_rng C (C 0 8).toNat 0 (drawV (drawV (L 0 8)) / 8 % manyC C)
    refine c_lendCoins (by omega) hV (by omega) (by omega) (by omega) (by omega) (by omega) (by omega) ?_
    generalize lendC C (livAt C 0 (C 0 8).toNat (drawV (L 0 8) / 8 % manyC C)) (livAt C 0 (C 0 8).toNat (drawV (drawV (L 0 8)) / 8 % manyC C)) (drawV (drawV (drawV (L 0 8))) / 8 % 20 + 1) = q at h
    rw [toI_int, b2i_z, mm_r _ _ _ hr, upd2_k _ _ (show 4 ≠ 8 by decide), mm_upd _ _ _ _ _ _ hr, mm_upd _ _ _ _ _ _ hr, wr_iN, wr_iN]
    refine ⟨fun c2 => ⟨by rw [← b2i_z]; exact bb01 _, ?_⟩, fun c2 => ⟨by rw [← b2i_z]; exact bb01 _, ?_⟩⟩
    · rw [c2] at h ⊢; exact h
    · rw [Bool.not_eq_false] at c2
      rw [c2] at h ⊢; exact h
  · rw [if_neg c] at h; exact h
def cmpB (v sg n : Int) : Bool := if sg = 60 then decide (v < n) else if sg = 62 then decide (n < v) else decide (v = n)
theorem c_compares {l : Launch} {E : EnvT} {d : Nat} {K : AV → Mem → Prop} {M : Mem} {v sg n : Int} (hd : 1 ≤ d) (v1 : -100000 ≤ v) (v2 : v ≤ 100000) (s1 : -128 ≤ sg) (s2 : sg ≤ 127) (n1 : 0 ≤ n) (n2 : n ≤ 9999) (h : K (.int (iN (b2i (cmpB v sg n))), 0) M) : CT l E d m_Life_compares [(.int (iN v), 0), (.int (iN sg), 0), (.int (iN n), 0)] M K := by
  refine CT.of pn_Life (Nat.le_of_ble_eq_true rfl) ?_
  refine b_Life_compares_0 hd ?_
  unfold cmpB at h
  simp (disch := omega) only [iN_eq, iN_le]
  refine ⟨fun c => ⟨fun c2 => ⟨fun c3 => ⟨z01, ?_⟩, fun c3 => ⟨o01, ?_⟩⟩, fun c2 => ⟨fun c3 => ⟨z01, ?_⟩, fun c3 => ⟨o01, ?_⟩⟩⟩, fun c => ⟨fun c3 => ⟨z01, ?_⟩, fun c3 => ⟨o01, ?_⟩⟩⟩
  · rw [if_neg c, if_neg c2, decide_eq_false c3] at h; exact h
  · rw [if_neg c, if_neg c2, decide_eq_true c3] at h; exact h
  · rw [if_neg c, if_pos c2, decide_eq_false (by omega)] at h; exact h
  · rw [if_neg c, if_pos c2, decide_eq_true (by omega)] at h; exact h
  · rw [if_pos c, decide_eq_false (by omega)] at h; exact h
  · rw [if_pos c, decide_eq_true (by omega)] at h; exact h
def YV (Y : Ch) : Prop := ∀ i, i < 60 → (-1 ≤ Y 1 i ∧ Y 1 i ≤ 60) ∧ (-1 ≤ Y 2 i ∧ Y 2 i < 8) ∧ (-1 ≤ Y 3 i ∧ Y 3 i < 8) ∧ (0 ≤ Y 4 i ∧ Y 4 i ≤ 9999) ∧ (-128 ≤ Y 5 i ∧ Y 5 i ≤ 127) ∧ (0 ≤ Y 6 i ∧ Y 6 i < 60)
def YT (Y : Ch) (i : Nat) : Prop := (Y 1 i = 9 → Y 4 i ≤ 99) ∧ (Y 1 i = 17 → 0 ≤ Y 2 i ∧ 0 ≤ Y 3 i) ∧ (Y 1 i = 1 ∨ Y 1 i = 18 → 0 ≤ Y 2 i)
def holdsB (Y C : Ch) (i : Nat) : Bool :=
  if Y 1 i = 1 then cmpB (C 2 (Y 2 i).toNat) (Y 5 i) (Y 4 i)
  else if Y 1 i = 17 then cmpB (if Y 2 i = Y 3 i then 0 else owedC C (Y 2 i) (Y 3 i).toNat) (Y 5 i) (Y 4 i)
  else decide (owesC C (Y 2 i) = 0) && decide (isOwC C (Y 2 i).toNat = 0)
theorem c_holds {l : Launch} {E : EnvT} {d : Nat} {K : AV → Mem → Prop} {M : Mem} {rc ry i : Nat} (hd : 4 ≤ d) (hV : VB (M rc)) (hY : YV (M ry)) (hi : i < 60) (hT : YT (M ry) i) (hk : M ry 1 i = 1 ∨ M ry 1 i = 17 ∨ M ry 1 i = 18) (h : K (.int (iN (b2i (holdsB (M ry) (M rc) i))), 0) M) : CT l E d m_Life_holds [(.ref rc, 11), (.ref ry, 23), (.int (iN i), 0)] M K := by
  refine CT.of pn_Life (Nat.le_of_ble_eq_true rfl) ?_
  obtain ⟨y1, y2, y3, y4, y5, y6⟩ := hY i hi
  obtain ⟨t1, t2, t3⟩ := hT
  refine b_Life_holds_0 (by omega) ?_
  rw [iN_clN (by omega)]
  simp (disch := omega) only [iN_eq]
  unfold holdsB at h
  refine ⟨iN_in (by omega) (by omega) (by omega), iN_in (by omega) (by omega) (by omega), iN_in (by omega) (by omega) (by omega), iN_in (by omega) (by omega) (by omega), fun c => ?_, fun c => ⟨fun c2 => ?_, fun c2 => ?_⟩⟩
  · rw [if_pos c] at h
    have a0 := t3 (Or.inl c)
    obtain ⟨a, ha⟩ : ∃ a : Nat, M ry 2 i = a := ⟨(M ry 2 i).toNat, (by omega)⟩
    rw [ha, show ((a : Int)).toNat = a from rfl] at h
    have p := hV.pu a (by omega)
    rw [ha, iN_clN (by omega)]
    exact ⟨iN_in (by omega) (by omega) (by omega), iN_in (by omega) (by omega) (by omega), c_compares (by omega) (by omega) (by omega) y5.1 y5.2 y4.1 y4.2 ⟨bb01 _, h⟩⟩
  · rw [if_neg c, if_pos c2] at h
    have a0 := t2 c2
    obtain ⟨b, hb⟩ : ∃ b : Nat, M ry 3 i = b := ⟨(M ry 3 i).toNat, (by omega)⟩
    refine ⟨fun c3 => ?_, fun c3 => ⟨iN_in (by omega) (by omega) (by omega), ?_⟩⟩
    · rw [if_neg c3, hb, show ((b : Int)).toNat = b from rfl] at h
      have ro := owedC_rng hV (M ry 2 i) (b := b) (by omega)
      rw [hb]
      refine c_owedBetween (by omega) hV (b := b) (by omega) (by omega) (by omega) ?_
      rw [toI_int]
      exact ⟨iN_in (by omega) (by omega) (by omega), c_compares (by omega) (by omega) (by omega) y5.1 y5.2 y4.1 y4.2 ⟨bb01 _, h⟩⟩
    · rw [if_pos c3] at h
      exact c_compares (by omega) (by omega) (by omega) y5.1 y5.2 y4.1 y4.2 ⟨bb01 _, h⟩
  · rw [if_neg c, if_neg c2] at h
    have a0 := t3 (by omega)
    obtain ⟨a, ha⟩ : ∃ a : Nat, M ry 2 i = a := ⟨(M ry 2 i).toNat, (by omega)⟩
    rw [ha, show ((a : Int)).toNat = a from rfl] at h
    rw [ha]
    have r1 := owesC_rng hV (a : Int)
    have r2 := isOwC_rng hV (s := a) (by omega)
    refine c_owesInAll (by omega) hV (by omega) (by omega) ?_
    rw [toI_int, iN_eq0 (by omega) (by omega)]
    refine ⟨fun c3 => ⟨z01, ?_⟩, fun c3 => c_isOwedInAll (by omega) hV (s := a) (by omega) ?_⟩
    · rw [decide_eq_false c3] at h; exact h
    · rw [toI_int, iN_eq0 (by omega) (by omega)]
      rw [decide_eq_true c3, Bool.true_and] at h
      refine ⟨fun c4 => ⟨z01, ?_⟩, fun c4 => ⟨o01, ?_⟩⟩
      · rw [decide_eq_false c4] at h; exact h
      · rw [decide_eq_true c4] at h; exact h
