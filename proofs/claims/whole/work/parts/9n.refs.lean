theorem wr_wr (v : Int) : wr (wr v) = wr v := wr_id (wr_rng v).1 (wr_rng v).2
theorem LB.u {L : Ch} (h : LB L) (k : Nat) (v : Int) : LB (upd2 L 0 k (wr v)) := fun j a => by
  rw [upd2_at]
  split
  · exact wr_wr v
  · exact h j a
theorem LB.o {L : Ch} (h : LB L) (k : Nat) (v : Int) (hk : k < 3 ∨ 6 < k) : LB (upd2 L 0 k v) := fun j a => by
  rw [upd2_k _ _ (by omega)]
  exact h j a
theorem LB.c {L : Ch} (h : LB L) {c : Nat} (k : Nat) (v : Int) (hc : c ≠ 0) : LB (upd2 L c k v) := fun j a => by
  rw [upd2_c _ _ (Ne.symm hc)]
  exact h j a
theorem cold_08 {C : Ch} {z : Int} : (coldC C z).2 0 8 = C 0 8 := by
  unfold coldC
  split
  · show settleC _ 0 8 = _
    rw [settleC_c (by decide), upd2_k _ _ (by decide), coldF_0 _ (by decide)]
  · rfl
theorem any_keep {L C : Ch} (hW : WC C) (lb : LB L) : ((anyC L C).2.1 1 = L 1 ∧ (∀ j, j ≠ 4 → j ≠ 6 → j ≠ 8 → (anyC L C).2.1 0 j = L 0 j) ∧ LB (anyC L C).2.1) ∧ WC (anyC L C).2.2 ∧ (anyC L C).2.2 0 8 = C 0 8 := by
  unfold anyC
  split
  · have q3 : 0 ≤ drawV (drawV (drawV (L 0 8))) / 8 % 20 ∧ drawV (drawV (drawV (L 0 8))) / 8 % 20 < 20 := ⟨Int.emod_nonneg _ (by omega), Int.emod_lt_of_pos _ (by omega)⟩
    refine ⟨⟨?_, fun j a b c => ?_, ?_⟩, ?_, lendC_08⟩
    · dsimp only
      rw [upd2_c _ _ (by decide), upd2_c _ _ (by decide)]
    · dsimp only
      rw [upd2_k _ _ a, upd2_k _ _ c]
    · exact (lb.o 8 _ (by omega)).u 4 _
    · exact WC_lend hW (by omega) (by omega)
  · exact ⟨⟨rfl, fun _ _ _ _ => rfl, lb⟩, hW, rfl⟩
theorem lifeDo_keep {Y L C : Ch} {i : Nat} (hW : WC C) (lb : LB L) (hk : Y 1 i = 3 ∨ Y 1 i = 9 ∨ Y 1 i = 11 ∨ Y 1 i = 12 ∨ Y 1 i = 13 ∨ Y 1 i = 14 ∨ Y 1 i = 15) (h1 : YQ Y i) : ((lifeDo Y L C i).2.1 1 = L 1 ∧ (∀ j, j ≠ 4 → j ≠ 6 → j ≠ 8 → (lifeDo Y L C i).2.1 0 j = L 0 j) ∧ LB (lifeDo Y L C i).2.1) ∧ WC (lifeDo Y L C i).2.2 ∧ (lifeDo Y L C i).2.2 0 8 = C 0 8 := by
  rcases hk with k | k | k | k | k | k | k
  · have e : lifeDo Y L C i = (decide ((coldC C (Y 2 i)).1 ≠ -1), L, (coldC C (Y 2 i)).2) := by unfold lifeDo; rw [if_pos k]
    rw [e]
    exact ⟨⟨rfl, fun _ _ _ _ => rfl, lb⟩, WC_cold hW, cold_08⟩
  · have e : lifeDo Y L C i = ((lendC C (Y 2 i) (Y 3 i) (Y 4 i)).1, upd2 L 0 4 (wr (L 0 4 + if (lendC C (Y 2 i) (Y 3 i) (Y 4 i)).1 then Y 4 i else 0)), (lendC C (Y 2 i) (Y 3 i) (Y 4 i)).2) := by unfold lifeDo; rw [if_neg (by omega), if_pos k]
    rw [e]
    have b := h1 (Or.inl k)
    dsimp only
    exact ⟨⟨upd2_c _ _ (show 1 ≠ 0 by decide), fun j a _ _ => upd2_k _ _ a, lb.u 4 _⟩, WC_lend hW b.1 b.2, lendC_08⟩
  · have e : lifeDo Y L C i = ((payC C (Y 2 i) (Y 3 i) (Y 4 i)).1, L, (payC C (Y 2 i) (Y 3 i) (Y 4 i)).2) := by unfold lifeDo; rw [if_neg (by omega), if_neg (by omega), if_pos k]
    rw [e]
    have b := h1 (Or.inr k)
    exact ⟨⟨rfl, fun _ _ _ _ => rfl, lb⟩, WC_pay hW (by omega), payC_08 (by decide)⟩
  · have e : lifeDo Y L C i = ((sunC C).1, upd2 L 0 6 (wr (L 0 6 + if (sunC C).1 then 1 else 0)), (sunC C).2) := by unfold lifeDo; rw [if_neg (by omega), if_neg (by omega), if_neg (by omega), if_pos k]
    rw [e]
    dsimp only
    exact ⟨⟨upd2_c _ _ (show 1 ≠ 0 by decide), fun j _ a _ => upd2_k _ _ a, lb.u 6 _⟩, WC_sunC hW, sun_15 (by decide)⟩
  · have e : lifeDo Y L C i = ((buryC C (Y 2 i)).1, L, (buryC C (Y 2 i)).2) := by unfold lifeDo; rw [if_neg (by omega), if_neg (by omega), if_neg (by omega), if_neg (by omega), if_pos k]
    rw [e]
    exact ⟨⟨rfl, fun _ _ _ _ => rfl, lb⟩, WC_bury hW, bury_15 (by decide) (by decide)⟩
  · have e : lifeDo Y L C i = (decide (0 < (netC C (Y 2 i) (Y 3 i)).1), L, (netC C (Y 2 i) (Y 3 i)).2) := by unfold lifeDo; rw [if_neg (by omega), if_neg (by omega), if_neg (by omega), if_neg (by omega), if_neg (by omega), if_pos k]
    rw [e]
    exact ⟨⟨rfl, fun _ _ _ _ => rfl, lb⟩, WC_net hW, by dsimp only; rw [netC_c (by decide)]⟩
  · have e : lifeDo Y L C i = anyC L C := by unfold lifeDo; rw [if_neg (by omega), if_neg (by omega), if_neg (by omega), if_neg (by omega), if_neg (by omega), if_neg (by omega), if_neg (by omega)]
    rw [e]
    exact any_keep hW lb
/-- the beginning of a loop or of a when -/
def opn (Y : Ch) (i : Nat) : Prop := Y 1 i = 1 ∨ Y 1 i = 17 ∨ Y 1 i = 18 ∨ Y 1 i = 19
/-- beginnings and ends stand one in the other -/
def YN (Y : Ch) : Prop :=
  (∀ i : Nat, (i : Int) < Y 0 6 → Y 1 i = 20 → ∃ o : Nat, Y 6 i = o ∧ o < i ∧ opn Y o ∧ Y 6 o = i) ∧
  (∀ i : Nat, (i : Int) < Y 0 6 → opn Y i → ∃ p : Nat, Y 6 i = p ∧ i < p ∧ (p : Int) < Y 0 6 ∧ Y 1 p = 20 ∧ Y 6 p = i) ∧
  ∀ a b : Nat, (a : Int) < Y 0 6 → (b : Int) < Y 0 6 → opn Y a → opn Y b → a < b → (b : Int) < Y 6 a → Y 6 b < Y 6 a
def LPR (Y L Z : Ch) (i : Int) : Prop := ∀ o : Nat, (o : Int) < i → i ≤ Y 6 o → Y 1 o = 19 → Z 11 o = L 1 o
def TL (L : Ch) : Prop := ∀ i, i < 60 → 0 ≤ L 1 i ∧ L 1 i ≤ 98
/-- how many ends may come from here before the next step -/
def muE (Y L : Ch) (k : Nat) : Nat := (60 - k) + if Y 1 k = 20 ∧ Y 6 k + 1 = k ∧ Y 1 (Y 6 k).toNat = 19 then (L 1 (Y 6 k).toNat).toNat else 0
theorem muE_le {Y L : Ch} {k : Nat} (hY : YV Y) (hT : TL L) (hk : k < 60) : muE Y L k ≤ 158 := by
  obtain ⟨y1, y2, y3, y4, y5, y6⟩ := hY k hk
  have := hT (Y 6 k).toNat (by omega)
  unfold muE
  split <;> omega
theorem endC_o {Y L : Ch} {k o : Nat} (ho : Y 6 k = o) : endC Y L k = if Y 1 o = 19 ∧ 0 < L 1 o then ((o : Int) + 1, upd2 L 1 o (L 1 o - 1)) else ((k : Int) + 1, L) := by
  unfold endC
  rw [ho, show ((o : Int)).toNat = o from rfl]
theorem mu_step {Y L : Ch} {k : Nat} (hN : YN Y) (hB : YB Y) (hT : TL L) (hk : (k : Int) < Y 0 6) (h20 : Y 1 k = 20) : ∃ k' : Nat, (endC Y L k).1 = k' ∧ (k' : Int) ≤ Y 0 6 ∧ TL (endC Y L k).2 ∧ (∀ c, c ≠ 1 → (endC Y L k).2 c = L c) ∧ (Y 0 6 ≤ (k' : Int) ∨ Y 1 k' ≠ 20 ∨ muE Y (endC Y L k).2 k' < muE Y L k) := by
  obtain ⟨o, ho, hok, hop, hoc⟩ := hN.1 k hk h20
  have b := hB.1
  have t := hT o (by omega)
  rw [endC_o ho]
  by_cases c : Y 1 o = 19 ∧ 0 < L 1 o
  · rw [if_pos c]
    refine ⟨o + 1, by push_cast; rfl, by push_cast; omega, fun j hj => ?_, fun c hc => upd2_c _ _ hc, ?_⟩
    · show 0 ≤ upd2 L 1 o (L 1 o - 1) 1 j ∧ upd2 L 1 o (L 1 o - 1) 1 j ≤ 98
      rw [upd2_at]
      split
      · omega
      · exact hT j hj
    · by_cases e : o + 1 = k
      · refine Or.inr (Or.inr ?_)
        rw [e]
        unfold muE
        have q : Y 1 k = 20 ∧ Y 6 k + 1 = (k : Int) ∧ Y 1 (Y 6 k).toNat = 19 := ⟨h20, by omega, by rw [ho]; exact c.1⟩
        rw [if_pos q, if_pos q, ho, show ((o : Int)).toNat = o from rfl]
        show 60 - k + (upd2 L 1 o (L 1 o - 1) 1 o).toNat < _
        rw [upd2_same]
        omega
      · refine Or.inr (Or.inl (fun e20 => ?_))
        obtain ⟨u, hu, huk, hup, huc⟩ := hN.1 (o + 1) (by push_cast; omega) e20
        by_cases e2 : u = o
        · subst e2
          omega
        · have := hN.2.2 u o (by omega) (by omega) hup hop (by omega) (by rw [huc]; push_cast; omega)
          rw [hoc, huc] at this
          push_cast at this
          omega
  · rw [if_neg c]
    refine ⟨k + 1, by push_cast; rfl, by push_cast; omega, hT, fun _ _ => rfl, ?_⟩
    by_cases e20 : Y 1 (k + 1) = 20
    · refine Or.inr (Or.inr ?_)
      show muE Y L (k + 1) < muE Y L k
      unfold muE
      rw [if_neg (fun q => ?_)]
      · omega
      · have e : Y 6 (k + 1) = k := by have := q.2.1; push_cast at this; omega
        have := q.2.2
        rw [e, show ((k : Int)).toNat = k from rfl] at this
        omega
    · exact Or.inr (Or.inl e20)
theorem LPR.nx {Y L Z Z' : Ch} {k : Nat} (h : LPR Y L Z k) (hk : Y 1 k ≠ 19) (e : ∀ o : Nat, o < k → Y 1 o = 19 → (k : Int) + 1 ≤ Y 6 o → Z' 11 o = Z 11 o) : LPR Y L Z' ((k : Int) + 1) := by
  intro o h1 h2 h3
  have ne : o ≠ k := fun q => hk (by rw [← q]; exact h3)
  rw [e o (by omega) h3 h2]
  exact h o (by omega) (by omega) h3
theorem r_endTurn {l : Launch} {E : EnvT} {d : Nat} {K : AV → Mem → Prop} {M : Mem} {Y L Z : Ch} {A : Nat → Int} {k : Nat} (hd : 1 ≤ d) (hN : YN Y) (hY : YV Y) (hB : YB Y) (hT : TL L) (hA : A 4 = Y 0 6) (hr : ∀ i : Nat, (i : Int) < Y 0 6 → RYr Y A 0 i) (hk : (k : Int) < Y 0 6) (h20 : Y 1 k = 20) (hl : LPR Y L Z k) (h : ∀ Z', (∀ c, c ≠ 11 → Z' c = Z c) → LPR Y (endC Y L k).2 Z' (endC Y L k).1 → G l E d m_Mod_behindEnds 2 [(0, (.ref 24, 41)), (2, (.int (iN (endC Y L k).1), 0))] [] (zA M Z' A) K) : G l E d m_Mod_behindEnds 2 [(0, (.ref 24, 41)), (2, (.int (iN (k : Int)), 0))] [] (zA M Z A) K := by
  obtain ⟨o, ho, hok, hop, hoc⟩ := hN.1 k hk h20
  have b := hB.1
  have t := hT o (by omega)
  have rk := hr k hk
  have ro := hr o (by omega)
  have r1 : A (238 + 6 * k) = 18 := by rw [rk.g, h20]; rfl
  have r6 : A (238 + 6 * k + 4) = o := by rw [rk.g4 (by omega)]; exact ho
  have q1 := ro.g
  rw [endC_o ho] at h
  refine b_Mod_behindEnds_2 (by omega) ?_
  rw [zA_1, clA (z := 4) (j := 4) rfl (by omega), hA, iN_mul, iN_add, clA (z := 238 + 6 * (k : Int)) (j := 238 + 6 * k) (by omega) (by omega), r1]
  refine ⟨inA (by omega) (by omega), fun c => absurd ((iN_le (by omega) (by omega) (by omega) (by omega)).mp c) (by omega), fun _ => ⟨inA (by omega) (by omega), fun c => absurd rfl c, fun _ => ?_⟩⟩
  refine b_Mod_behindEnds_30 (by omega) ?_
  simp only [zA_1, iN_mul, iN_add]
  rw [clA (z := 238 + 6 * (k : Int) + 4) (j := 238 + 6 * k + 4) (by omega) (by omega), r6, clA (z := 238 + 6 * (o : Int)) (j := 238 + 6 * o) (by omega) (by omega), q1, iN_clN (by omega), zA_c M Z A (show 11 ≠ 1 by decide)]
  have stay : Y 1 o = 19 ∧ 0 < L 1 o ∨ G l E d m_Mod_behindEnds 80 [(0, (.ref 24, 41)), (2, (.int (iN (k : Int)), 0)), (3, (.int (iN (o : Int)), 0)), (4, (.int (iN 0), 0))] [] (zA M Z A) K := by
    by_cases c : Y 1 o = 19 ∧ 0 < L 1 o
    · exact Or.inl c
    · refine Or.inr (b_Mod_behindEnds_80 (by omega) ⟨iN_in (by omega) (by omega) (by omega), fun _ => ⟨iN_in (by omega) (by omega) (by omega), ?_⟩, fun c => absurd (by decide +kernel) c⟩)
      rw [if_neg c] at h
      rw [iN_clN (by omega), zA_c M Z A (show 11 ≠ 1 by decide), iN_sub, zA_uo M Z A (show 11 ≠ 1 by decide)]
      refine b_Mod_behindEnds_99 (by omega) ⟨fun _ => ?_, fun c => absurd (by decide +kernel) c⟩
      rw [iN_add]
      refine h _ (fun c hc => upd2_c _ _ hc) (hl.nx (by omega) (fun u u1 u2 u3 => ?_))
      rw [upd2_at]
      split
      · rename_i e
        subst e
        have zl := hl u (by omega) (by omega) u2
        rw [zl, Int.sub_zero]
        exact iN_small (by omega) (by omega)
      · rfl
  by_cases e19 : Y 1 o = 19
  · have zl := hl o (by omega) (by omega) e19
    rw [e19, zl, iN_le0 (by omega) (by omega)]
    refine ⟨inA (by omega) (by omega), inA (by omega) (by omega), fun c => absurd rfl c, fun _ => ⟨iN_in (by omega) (by omega) (by omega), fun c => ?_, fun c => ?_⟩⟩
    · rcases stay with q | q
      · omega
      · exact q
    · rw [if_pos ⟨e19, by omega⟩] at h
      refine b_Mod_behindEnds_80 (by omega) ⟨iN_in (by omega) (by omega) (by omega), fun c => absurd c (by decide +kernel), fun _ => ⟨iN_in (by omega) (by omega) (by omega), ?_⟩⟩
      rw [iN_clN (by omega), zA_c M Z A (show 11 ≠ 1 by decide), iN_sub, zA_uo M Z A (show 11 ≠ 1 by decide), zl, iN_small (by omega) (by omega)]
      refine b_Mod_behindEnds_99 (by omega) ⟨fun c => absurd c (by decide +kernel), fun _ => ?_⟩
      rw [iN_add]
      refine h _ (fun c hc => upd2_c _ _ hc) (fun u u1 u2 u3 => ?_)
      show upd2 Z 11 o (L 1 o - 1) 11 u = upd2 L 1 o (L 1 o - 1) 1 u
      rw [upd2_at, upd2_at]
      by_cases e : u = o
      · rw [if_pos e, if_pos e]
      · rw [if_neg e, if_neg e]
        have u1 : (u : Int) < (o : Int) + 1 := u1
        have u2 : (o : Int) + 1 ≤ Y 6 u := u2
        have := hN.2.2 u o (by omega) (by omega) (Or.inr (Or.inr (Or.inr u3))) hop (by omega) (by omega)
        exact hl u (by omega) (by omega) u3
  · have nk : ¬ iN (kR (Y 1 o)) = iN 17 := by
      rcases hop with e | e | e | e
      · rw [e]; decide +kernel
      · rw [e]; decide +kernel
      · rw [e]; decide +kernel
      · exact absurd e e19
    refine ⟨inA (by omega) (by omega), inA (by omega) (by omega), fun _ => ?_, fun c => absurd c nk⟩
    rcases stay with q | q
    · exact absurd q.1 e19
    · exact q
theorem r_ends {l : Launch} {E : EnvT} {d : Nat} {K : AV → Mem → Prop} {M : Mem} {Y : Ch} {A : Nat → Int} (hd : 1 ≤ d) (hN : YN Y) (hY : YV Y) (hB : YB Y) (hA : A 4 = Y 0 6) (hr : ∀ i : Nat, (i : Int) < Y 0 6 → RYr Y A 0 i) : ∀ (n k : Nat) (L Z : Ch), (k : Int) ≤ Y 0 6 → TL L → LPR Y L Z k → (Y 0 6 ≤ (k : Int) ∨ Y 1 k ≠ 20 ∨ muE Y L k ≤ n) → (∀ (Z' L' : Ch) (k' : Nat), (∀ c, c ≠ 11 → Z' c = Z c) → LPR Y L' Z' k' → (k' : Int) ≤ Y 0 6 → (Y 0 6 ≤ (k' : Int) ∨ Y 1 k' ≠ 20) → TL L' → (∀ c, c ≠ 1 → L' c = L c) → (∃ m, m ≤ n ∧ ∀ f C, L 0 7 = 0 → runF Y (f + m) k L C = runF Y f k' L' C) → K (.int (iN (k' : Int)), 0) (zA M Z' A)) → G l E d m_Mod_behindEnds 2 [(0, (.ref 24, 41)), (2, (.int (iN (k : Int)), 0))] [] (zA M Z A) K := by
  have b := hB.1
  intro n
  induction n with
  | zero =>
    intro k L Z hk hT hl hm h
    have stop : Y 0 6 ≤ (k : Int) ∨ Y 1 k ≠ 20 := by
      rcases hm with q | q | q
      · exact Or.inl q
      · exact Or.inr q
      · unfold muE at q
        exact Or.inl (by omega)
    have fin := h Z L k (fun _ _ => rfl) hl hk stop hT (fun _ _ => rfl) ⟨0, (by omega), fun _ _ _ => rfl⟩
    refine b_Mod_behindEnds_2 (by omega) ?_
    rw [zA_1, clA (z := 4) (j := 4) rfl (by omega), hA, iN_mul, iN_add, clA (z := 238 + 6 * (k : Int)) (j := 238 + 6 * k) (by omega) (by omega)]
    refine ⟨inA (by omega) (by omega), fun _ => fin, fun c => ⟨inA (by omega) (by omega), fun _ => fin, fun c2 => ?_⟩⟩
    exfalso
    rw [iN_le (by omega) (by omega) (by omega) (by omega)] at c
    have rk := (hr k (by omega))
    have r1 := rk.g
    rw [r1] at c2
    rcases stop with q | q
    · omega
    · rcases rk.1 with e | e | e | e | e | e | e | e | e | e | e | e | e
      all_goals first | (exact absurd e q) | (rw [e] at c2; exact absurd c2 (by decide +kernel))
  | succ n ih =>
    intro k L Z hk hT hl hm h
    by_cases stop : Y 0 6 ≤ (k : Int) ∨ Y 1 k ≠ 20
    · have fin := h Z L k (fun _ _ => rfl) hl hk stop hT (fun _ _ => rfl) ⟨0, (by omega), fun _ _ _ => rfl⟩
      refine b_Mod_behindEnds_2 (by omega) ?_
      rw [zA_1, clA (z := 4) (j := 4) rfl (by omega), hA, iN_mul, iN_add, clA (z := 238 + 6 * (k : Int)) (j := 238 + 6 * k) (by omega) (by omega)]
      refine ⟨inA (by omega) (by omega), fun _ => fin, fun c => ⟨inA (by omega) (by omega), fun _ => fin, fun c2 => ?_⟩⟩
      exfalso
      rw [iN_le (by omega) (by omega) (by omega) (by omega)] at c
      have rk := (hr k (by omega))
      have r1 := rk.g
      rw [r1] at c2
      rcases stop with q | q
      · omega
      · rcases rk.1 with e | e | e | e | e | e | e | e | e | e | e | e | e
        all_goals first | (exact absurd e q) | (rw [e] at c2; exact absurd c2 (by decide +kernel))
    · have hk' : (k : Int) < Y 0 6 := by
        rcases Int.lt_or_le (k : Int) (Y 0 6) with q | q
        · exact q
        · exact absurd (Or.inl q) stop
      have h20 : Y 1 k = 20 := by
        by_cases e : Y 1 k = 20
        · exact e
        · exact absurd (Or.inr e) stop
      obtain ⟨k', e1, e2, e3, e4, e5⟩ := mu_step (L := L) hN hB hT hk' h20
      refine r_endTurn hd hN hY hB hT hA hr hk' h20 hl (fun Z' z1 z2 => ?_)
      rw [e1] at z2 ⊢
      refine ih k' (endC Y L k).2 Z' e2 e3 z2 ?_ (fun Z2 L2 k2 a1 a2 a3 a4 a5 a6 a7 => ?_)
      · rcases e5 with q | q | q
        · exact Or.inl q
        · exact Or.inr (Or.inl q)
        · rcases hm with q2 | q2 | q2
          · omega
          · exact absurd h20 q2
          · exact Or.inr (Or.inr (by omega))
      · obtain ⟨m, m1, m2⟩ := a7
        refine h Z2 L2 k2 (fun c hc => by rw [a1 c hc, z1 c hc]) a2 a3 a4 a5 (fun c hc => by rw [a6 c hc, e4 c hc]) ⟨m + 1, (by omega), fun f C h7 => ?_⟩
        have e : runF Y (f + (m + 1)) k L C = runF Y (f + m) (endC Y L k).1 (endC Y L k).2 C := by
          show (if Y 0 6 ≤ (k : Int) then (L, C) else if L 0 7 ≠ 0 then (L, C) else if Y 1 ((k : Int)).toNat = 20 then runF Y (f + m) (endC Y L ((k : Int)).toNat).1 (endC Y L ((k : Int)).toNat).2 C else if L 0 2 < 300 then _ else _) = _
          rw [if_neg (by omega), if_neg (fun q => q h7), show ((k : Int)).toNat = k from rfl, if_pos h20]
        rw [e, e1]
        exact m2 f C (by rw [e4 0 (by decide)]; exact h7)
