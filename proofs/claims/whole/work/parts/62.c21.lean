def runF (Y : Ch) : Nat → Int → Ch → Ch → Ch × Ch
  | 0, _, L, C => (L, C)
  | f + 1, i, L, C =>
    if Y 0 6 ≤ i then (L, C)
    else if L 0 7 ≠ 0 then (L, C)
    else if Y 1 i.toNat = 20 then runF Y f (endC Y L i.toNat).1 (endC Y L i.toNat).2 C
    else if L 0 2 < 300 then runF Y f (stepC2 Y (upd2 L 0 2 (L 0 2 + 1)) C i.toNat).1 (stepC2 Y (upd2 L 0 2 (L 0 2 + 1)) C i.toNat).2.1 (stepC2 Y (upd2 L 0 2 (L 0 2 + 1)) C i.toNat).2.2
    else runF Y f i (upd2 L 0 7 1) C
theorem LI_end {Y L : Ch} {i : Nat} (hY : YV Y) (hL : LI L) (hi : i < 60) : LI (endC Y L i).2 := by
  unfold endC
  obtain ⟨y1, y2, y3, y4, y5, y6⟩ := hY i hi
  have t1 := hL.2.2.2 (Y 6 i).toNat (by omega)
  split
  · exact hL.t _ _ (by omega) (by omega)
  · exact hL
theorem end_rng {Y L : Ch} {i : Nat} (hY : YV Y) (hi : i < 60) : 0 ≤ (endC Y L i).1 ∧ (endC Y L i).1 ≤ 60 := by
  unfold endC
  obtain ⟨y1, y2, y3, y4, y5, y6⟩ := hY i hi
  split
  · show 0 ≤ Y 6 i + 1 ∧ Y 6 i + 1 ≤ 60
    omega
  · show 0 ≤ (i : Int) + 1 ∧ (i : Int) + 1 ≤ 60
    omega
theorem anyC_inv {L C : Ch} (hL : LI L) (hV : VB C) : LI (anyC L C).2.1 ∧ VB (anyC L C).2.2 := by
  unfold anyC
  split
  · have d3 := drawV_rng (drawV (drawV (L 0 8)))
    have q3 : 0 ≤ drawV (drawV (drawV (L 0 8))) / 8 % 20 ∧ drawV (drawV (drawV (L 0 8))) / 8 % 20 < 20 := ⟨Int.emod_nonneg _ (by omega), Int.emod_lt_of_pos _ (by omega)⟩
    exact ⟨(hL.f8 _ d3.1 d3.2).f 4 _ (by decide) (by decide) (by decide), VB_lend hV (by omega) (by omega)⟩
  · exact ⟨hL, hV⟩
theorem VB_sunC {C : Ch} (hV : VB C) : VB (sunC C).2 := by
  unfold sunC
  split
  · rename_i c
    exact VB_sun hV c _ _
  · exact hV
theorem lifeDo_inv {Y L C : Ch} {i : Nat} (hY : YV Y) (hT : YT Y i) (hi : i < 60) (hL : LI L) (hV : VB C) : LI (lifeDo Y L C i).2.1 ∧ VB (lifeDo Y L C i).2.2 := by
  obtain ⟨y1, y2, y3, y4, y5, y6⟩ := hY i hi
  unfold lifeDo
  by_cases e : Y 1 i = 3
  · rw [if_pos e]; exact ⟨hL, VB_cold hV⟩
  rw [if_neg e]
  by_cases e : Y 1 i = 9
  · rw [if_pos e]
    have t := hT.1 e
    exact ⟨hL.f 4 _ (by decide) (by decide) (by decide), VB_lend hV (by omega) (by omega)⟩
  rw [if_neg e]
  by_cases e : Y 1 i = 11
  · rw [if_pos e]; exact ⟨hL, VB_pay hV (by omega)⟩
  rw [if_neg e]
  by_cases e : Y 1 i = 12
  · rw [if_pos e]; exact ⟨hL.f 6 _ (by decide) (by decide) (by decide), VB_sunC hV⟩
  rw [if_neg e]
  by_cases e : Y 1 i = 13
  · rw [if_pos e]; exact ⟨hL, VB_bury hV⟩
  rw [if_neg e]
  by_cases e : Y 1 i = 14
  · rw [if_pos e]; exact ⟨hL, VB_net hV⟩
  rw [if_neg e]
  by_cases e : Y 1 i = 19
  · rw [if_pos e]; exact ⟨hL.t _ _ (by omega) (by omega), hV⟩
  rw [if_neg e]
  exact anyC_inv hL hV
theorem step_inv {Y L C : Ch} {i : Nat} (hY : YV Y) (hB : YB Y) (hT : YT Y i) (hi : i < 60) (hL : LI L) (hV : VB C) : (0 ≤ (stepC2 Y L C i).1 ∧ (stepC2 Y L C i).1 ≤ 60) ∧ LI (stepC2 Y L C i).2.1 ∧ VB (stepC2 Y L C i).2.2 := by
  obtain ⟨y1, y2, y3, y4, y5, y6⟩ := hY i hi
  unfold stepC2
  split
  · refine ⟨?_, hL, hV⟩
    show 0 ≤ (if holdsB Y C i = true then (i : Int) + 1 else Y 6 i + 1) ∧ (if holdsB Y C i = true then (i : Int) + 1 else Y 6 i + 1) ≤ 60
    split <;> omega
  · split
    · exact ⟨hB.1, hL, hV⟩
    · have q := lifeDo_inv hY hT hi hL hV
      refine ⟨?_, ?_, q.2⟩
      · show 0 ≤ (i : Int) + 1 ∧ (i : Int) + 1 ≤ 60
        omega
      · exact q.1.f 3 _ (by decide) (by decide) (by decide)
def runC0 (L : Ch) (sd : Int) : Ch := upd2 (upd2 (upd2 (upd2 (upd2 (upd2 (upd2 L 0 1 1) 0 2 0) 0 3 0) 0 4 0) 0 6 0) 0 7 0) 0 8 sd
def runC (Y L C : Ch) (sd : Int) : Ch × Ch := (upd2 (runF Y 1000000 0 (runC0 L sd) C).1 0 5 (wr ((runF Y 1000000 0 (runC0 L sd) C).2 0 15 - C 0 15)), (runF Y 1000000 0 (runC0 L sd) C).2)
theorem LI_run0 {L : Ch} {sd : Int} (hL : ∀ i, i < 60 → -1 ≤ L 1 i ∧ L 1 i ≤ 9999) (s1 : 0 ≤ sd) (s2 : sd < 65536) : LI (runC0 L sd) := by
  unfold runC0
  refine ⟨?_, ?_, ?_, ?_⟩
  · simp [upd2]
  · simp [upd2]
  · rw [upd2_same]; exact ⟨s1, s2⟩
  · rw [upd2_c _ _ (by decide), upd2_c _ _ (by decide), upd2_c _ _ (by decide), upd2_c _ _ (by decide), upd2_c _ _ (by decide), upd2_c _ _ (by decide), upd2_c _ _ (by decide)]; exact hL
theorem runF_inv {Y : Ch} (hY : YV Y) (hB : YB Y) (hT : ∀ i : Nat, (i : Int) < Y 0 6 → YT Y i) : ∀ (f : Nat) (i : Int) (L C : Ch), 0 ≤ i → LI L → VB C → LI (runF Y f i L C).1 ∧ VB (runF Y f i L C).2
  | 0, _, _, _, _, hL, hV => ⟨hL, hV⟩
  | f + 1, i, L, C, hi, hL, hV => by
    have b := hB.1
    unfold runF
    split
    · exact ⟨hL, hV⟩
    · have i60 : i.toNat < 60 := by omega
      split
      · exact ⟨hL, hV⟩
      · split
        · exact runF_inv hY hB hT f _ _ C (end_rng hY i60).1 (LI_end hY hL i60) hV
        · split
          · have q := step_inv hY hB (hT i.toNat (by omega)) i60 (hL.f2 (L 0 2 + 1) (by have := hL.1; omega) (by have := hL.1; omega)) hV
            exact runF_inv hY hB hT f _ _ _ q.1.1 q.2.1 q.2.2
          · exact runF_inv hY hB hT f _ _ C hi (hL.f7 1 (Or.inr rfl)) hV
theorem c_run {l : Launch} {E : EnvT} {d : Nat} {K : AV → Mem → Prop} {M : Mem} {r rc ry : Nat} {L C : Ch} {sd : Int} (hd : 7 ≤ d) (h1 : r ≠ rc) (h2 : ry ≠ r) (h3 : ry ≠ rc) (hV : VB C) (hY : YV (M ry)) (hB : YB (M ry)) (hT : ∀ i : Nat, (i : Int) < M ry 0 6 → YT (M ry) i) (hL : ∀ i, i < 60 → -1 ≤ L 1 i ∧ L 1 i ≤ 9999) (s1 : 0 ≤ sd) (s2 : sd < 65536) (h : K (.null, 0) (setR (setR M r (runC (M ry) L C sd).1) rc (runC (M ry) L C sd).2)) : CT l E d m_Life_run [(.ref r, 37), (.ref ry, 23), (.ref rc, 11), (.int (iN sd), 0)] (setR (setR M r L) rc C) K := by
  refine CT.of pn_Life (Nat.le_of_ble_eq_true rfl) ?_
  refine b_Life_run_0 (by omega) ⟨o01, ?_⟩
  have b := hB.1
  have pd := hV.paid
  unfold runC at h
  have key : ∀ F : Nat, F = 1000000 → K (.null, 0) (setR (setR M r (upd2 (runF (M ry) F 0 (runC0 L sd) C).1 0 5 (wr ((runF (M ry) F 0 (runC0 L sd) C).2 0 15 - C 0 15)))) rc (runF (M ry) F 0 (runC0 L sd) C).2) → ∀ (f t : Nat), f + t = F → ∀ (i : Int) (L' C' : Ch), 0 ≤ i → i ≤ 60 → LI L' → VB C' → runF (M ry) f i L' C' = runF (M ry) F 0 (runC0 L sd) C → G l E d m_Life_run 47 [(0, (.ref r, 37)), (1, (.ref ry, 23)), (2, (.ref rc, 11)), (4, (.int (iN (C 0 15)), 0)), (5, (.int (iN i), 0)), (6, (.int (iN t), 0))] [] (setR (setR M r L') rc C') K := by
    intro F hF hK f
    generalize hR : runF (M ry) F 0 (runC0 L sd) C = R at hK
    have done : ∀ (L' C' : Ch), (L', C') = R → K (.null, 0) (upd3 (setR (setR M r L') rc C') r 0 5 ((iN (setR (setR M r L') rc C' rc 0 15) - iN (C 0 15))).toInt) := by
      intro L' C' e
      rw [← e] at hK
      rw [setR_same, iN_sub, mm_upd _ _ _ _ _ _ h1]
      exact hK
    induction f with
    | zero =>
      intro t ht i L' C' i1 i2 hL' hV' he
      have he : (L', C') = R := he
      refine b_Life_run_47 (by omega) ⟨fun _ => done L' C' he, fun c => absurd ((iN_le (by omega) (by omega) (by omega) (by omega)).mpr (by omega)) c⟩
    | succ f ih =>
      intro t ht i L' C' i1 i2 hL' hV' he
      unfold runF at he
      refine b_Life_run_47 (by omega) ⟨fun c => absurd ((iN_le (by omega) (by omega) (by omega) (by omega)).mp c) (by omega), fun _ => ?_⟩
      rw [mm_o _ _ _ h2 h3, mm_r _ _ _ h1, iN_le (by omega) (by omega) (by omega) (by omega)]
      have l7 := hL'.2.1
      have l2 := hL'.1
      refine ⟨fun c => ?_, fun c => ?_⟩
      · rw [if_pos c] at he
        have := done L' C' he
        rw [mm_upd _ _ _ _ _ _ h1] at this ⊢
        exact this
      · rw [if_neg c] at he
        obtain ⟨k, rfl⟩ : ∃ k : Nat, i = k := ⟨i.toNat, (by omega)⟩
        rw [show ((k : Int)).toNat = k from rfl] at he
        have k60 : k < 60 := (by omega)
        obtain ⟨y1, y2, y3, y4, y5, y6⟩ := hY k k60
        rw [iN_eq0 (by omega) (by omega)]
        refine ⟨fun c2 => ?_, fun c2 => ⟨iN_in (by omega) (by omega) (by omega), ?_⟩⟩
        · rw [if_pos c2] at he
          have := done L' C' he
          rw [mm_upd _ _ _ _ _ _ h1] at this ⊢
          exact this
        · rw [if_neg (by omega)] at he
          rw [iN_clN (by omega), iN_eq (by omega) (by omega) (by omega) (by omega), iN_lt (by omega) (by omega) (by omega) (by omega)]
          refine ⟨fun c3 => ?_, fun c3 => ?_⟩
          · rw [if_neg c3] at he
            refine ⟨fun c4 => ?_, fun c4 => ?_⟩
            · rw [if_pos c4] at he
              have hL2 := hL'.f2 (L' 0 2 + 1) (by omega) (by omega)
              have q := step_inv hY hB (hT k (by omega)) k60 hL2 hV'
              rw [iN_add, iN_small (by omega) (by omega), mm_upd _ _ _ _ _ _ h1]
              refine c_behindStep (by omega) h1 h2 h3 hV' hY (hT k (by omega)) hL2 k60 ?_
              rw [toI_int, iN_add]
              exact ih (t + 1) (by omega) _ _ _ q.1.1 q.1.2 q.2.1 q.2.2 he
            · rw [if_neg c4] at he
              rw [iN_1I, mm_upd _ _ _ _ _ _ h1, iN_add]
              exact ih (t + 1) (by omega) _ _ _ (by omega) (by omega) (hL'.f7 1 (Or.inr rfl)) hV' he
          · rw [if_pos c3] at he
            have q := end_rng (L := L') hY k60
            refine c_behindEnd (by omega) h1 h2 h3 hY hL' k60 ?_
            rw [toI_int, iN_add]
            exact ih (t + 1) (by omega) _ _ _ q.1 q.2 (LI_end hY hL' k60) hV' he
  rw [mm_upd _ _ _ _ _ _ h1, mm_upd _ _ _ _ _ _ h1, mm_upd _ _ _ _ _ _ h1, mm_upd _ _ _ _ _ _ h1, mm_upd _ _ _ _ _ _ h1, mm_upd _ _ _ _ _ _ h1, mm_upd _ _ _ _ _ _ h1, setR_same, iN_0I, iN_1I, iN_small (show -2147483648 ≤ sd by omega) (show sd < 2147483648 by omega)]
  exact key 1000000 rfl h 1000000 0 rfl 0 _ C (by omega) (by omega) (LI_run0 hL s1 s2) hV rfl
