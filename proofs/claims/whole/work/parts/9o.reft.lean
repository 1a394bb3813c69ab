theorem runF_end {Y L C : Ch} {f : Nat} {i : Int} (h : Y 0 6 ≤ i) : runF Y (f + 1) i L C = (L, C) := by
  show (if Y 0 6 ≤ i then (L, C) else _) = _
  rw [if_pos h]
theorem runF_step {Y L C : Ch} {f k : Nat} (hk : (k : Int) < Y 0 6) (h7 : L 0 7 = 0) (h20 : Y 1 k ≠ 20) (h2 : L 0 2 < 300) : runF Y (f + 1) k L C = runF Y f (stepC2 Y (upd2 L 0 2 (L 0 2 + 1)) C k).1 (stepC2 Y (upd2 L 0 2 (L 0 2 + 1)) C k).2.1 (stepC2 Y (upd2 L 0 2 (L 0 2 + 1)) C k).2.2 := by
  show (if Y 0 6 ≤ (k : Int) then (L, C) else if L 0 7 ≠ 0 then (L, C) else if Y 1 ((k : Int)).toNat = 20 then _ else if L 0 2 < 300 then runF Y f (stepC2 Y (upd2 L 0 2 (L 0 2 + 1)) C ((k : Int)).toNat).1 (stepC2 Y (upd2 L 0 2 (L 0 2 + 1)) C ((k : Int)).toNat).2.1 (stepC2 Y (upd2 L 0 2 (L 0 2 + 1)) C ((k : Int)).toNat).2.2 else _) = _
  rw [if_neg (by omega), if_neg (fun q => q h7), show ((k : Int)).toNat = k from rfl, if_neg h20, if_pos h2]
theorem runF_left {Y L C : Ch} {f k : Nat} (hk : (k : Int) < Y 0 6) (h7 : L 0 7 = 0) (h20 : Y 1 k ≠ 20) (h2 : ¬ L 0 2 < 300) : runF Y (f + 2) k L C = (upd2 L 0 7 1, C) := by
  show (if Y 0 6 ≤ (k : Int) then (L, C) else if L 0 7 ≠ 0 then (L, C) else if Y 1 ((k : Int)).toNat = 20 then _ else if L 0 2 < 300 then _ else (if Y 0 6 ≤ (k : Int) then (upd2 L 0 7 1, C) else if upd2 L 0 7 1 0 7 ≠ 0 then (upd2 L 0 7 1, C) else _)) = _
  rw [if_neg (by omega), if_neg (fun q => q h7), show ((k : Int)).toNat = k from rfl, if_neg h20, if_neg h2, if_neg (by omega), if_pos (by rw [upd2_same]; decide)]
def ZLV (Z0 Z : Ch) : Prop := ∀ c k, c ≠ 11 → c ≠ 12 → ¬ (c = 0 ∧ (k = 27 ∨ k = 28)) → Z c k = Z0 c k
/-- what an accepted text of years keeps, for n singers -/
def YPi (Y : Ch) (n : Int) (i : Nat) : Prop := YT Y i ∧ YQ Y i ∧ (Y 1 i = 19 → 1 ≤ Y 4 i ∧ Y 4 i ≤ 99) ∧ (Y 1 i = 1 ∨ Y 1 i = 17 ∨ Y 1 i = 18 → Y 2 i < n) ∧ (Y 1 i ≠ 17 ∨ Y 3 i < n)
def YP (Y : Ch) (n : Int) : Prop := YN Y ∧ ∀ i : Nat, (i : Int) < Y 0 6 → YPi Y n i
def LVI (n8 p0 : Int) (Z0 : Ch) (A0 : Nat → Int) (L C Z : Ch) (A : Nat → Int) : Prop := (WC C ∧ C 0 8 = n8 ∧ RR C A 0 ∧ FrA 0 A0 A) ∧ ZLV Z0 Z ∧ LR L p0 (C 0 15) Z ∧ Z 12 4 = L 0 7 ∧ LB L ∧ LI L ∧ TL L ∧ L 0 1 = 1
theorem LVI.ends {n8 p0 : Int} {Z0 : Ch} {A0 : Nat → Int} {L C Z : Ch} {A : Nat → Int} {L' Z' : Ch} (h : LVI n8 p0 Z0 A0 L C Z A) (hz : ∀ c, c ≠ 11 → Z' c = Z c) (hl : ∀ c, c ≠ 1 → L' c = L c) (ht : TL L') : LVI n8 p0 Z0 A0 L' C Z' A := by
  obtain ⟨h1, h2, ⟨z1, z2, z3, z4, z5, z6⟩, h4, lb, li, tl, l1⟩ := h
  have e0 := hl 0 (by decide)
  have y0 := hz 0 (by decide)
  have y12 := hz 12 (by decide)
  refine ⟨h1, fun c k a b q => by rw [hz c a]; exact h2 c k a b q, ⟨by rw [y12, e0]; exact z1, by rw [y12, e0]; exact z2, by rw [y12, e0]; exact z3, by rw [y0, e0]; exact z4, by rw [y0, e0]; exact z5, by rw [y12]; exact z6⟩, by rw [y12, e0]; exact h4, fun k a => by rw [e0]; exact lb k a, ⟨by rw [e0]; exact li.1, by rw [e0]; exact li.2.1, by rw [e0]; exact li.2.2.1, fun i hi => ?_⟩, ht, by rw [e0]; exact l1⟩
  have := ht i hi
  omega
theorem kR_19 {x : Int} (h : kOk x) (c : iN (kR x) = iN 19) : x = 21 := by
  rcases h with e | e | e | e | e | e | e | e | e | e | e | e | e
  all_goals first | exact e | (rw [e] at c; exact absurd c (by decide +kernel))
theorem kR_rng {x : Int} (h : kOk x) : 0 ≤ kR x ∧ kR x ≤ 1621 := by
  rcases h with e | e | e | e | e | e | e | e | e | e | e | e | e
  all_goals (rw [e]; decide +kernel)
set_option maxHeartbeats 2000000 in
theorem r_livesLoop {l : Launch} {E : EnvT} {d : Nat} {K : AV → Mem → Prop} {M : Mem} {Y Z0 : Ch} {A0 : Nat → Int} {n8 p0 : Int} {R : Ch × Ch} (hd : 10 ≤ d) (hB : Z0 0 21 = 0) (hY : YV Y) (hYB : YB Y) (hP : YP Y n8) (hA0 : A0 4 = Y 0 6) (hr0 : ∀ i : Nat, (i : Int) < Y 0 6 → RYr Y A0 0 i) (hK : ∀ (L C Z : Ch) (A : Nat → Int), (L, C) = R → LVI n8 p0 Z0 A0 L C Z A → K (.null, 0) (zA M Z A)) : ∀ (m k f : Nat) (L C Z : Ch) (A : Nat → Int), L 0 2 + m = 300 → (k : Int) ≤ Y 0 6 → (Y 0 6 ≤ (k : Int) ∨ Y 1 k ≠ 20) → L 0 7 = 0 → LVI n8 p0 Z0 A0 L C Z A → LPR Y L Z k → 200 * m + 10 ≤ f → runF Y f k L C = R → G l E d m_Mod_lives 32 [(0, (.ref 24, 41)), (2, (.int (iN (k : Int)), 0))] [] (zA M Z A) K := by
  have b := hYB.1
  have hN := hP.1
  intro m
  induction m with
  | zero =>
    intro k f L C Z A hm hk hs h7 hI hl hf he
    have hI2 := hI
    obtain ⟨⟨hW, h8, hR, hF⟩, hz, ⟨z1, z2, z3, z4, z5, z6⟩, h4, lb, li, tl, l1⟩ := hI
    have hA : A 4 = Y 0 6 := by rw [hF 4 (by omega)]; exact hA0
    obtain ⟨g, rfl⟩ : ∃ g, f = g + 2 := ⟨f - 2, (by omega)⟩
    refine b_Mod_lives_32 (by omega) ?_
    rw [zA_1, clA (z := 4) (j := 4) rfl (by omega), hA, zA_0, z5, iN_le (by omega) (by omega) (by omega) (by omega), iN_eq (by omega) (by omega) (by omega) (by omega)]
    refine ⟨inA (by omega) (by omega), fun c => hK L C Z A (by rw [← he, runF_end c]) hI2, fun c => ⟨fun c2 => absurd (by omega) c2, fun _ => ⟨iN_in (by omega) (by omega) (by omega), ?_⟩⟩⟩
    have k20 : Y 1 k ≠ 20 := by
      rcases hs with q | q
      · omega
      · exact q
    rw [runF_left (by omega) h7 k20 (by omega)] at he
    rw [zA_uo M Z A (show 12 ≠ 1 by decide), iN_small (by omega) (by omega)]
    refine hK _ C _ A he ⟨⟨hW, h8, hR, hF⟩, fun c k a b q => by rw [upd2_c _ _ b]; exact hz c k a b q, ⟨?_, ?_, ?_, ?_, ?_, ?_⟩, ?_, lb.o 7 _ (by omega), li.f7 1 (Or.inr rfl), fun i hi => ?_, ?_⟩
    · rw [upd2_k _ _ (by decide), upd2_k _ _ (by decide)]; exact z1
    · rw [upd2_k _ _ (by decide), upd2_k _ _ (by decide)]; exact z2
    · rw [upd2_k _ _ (by decide), upd2_k _ _ (by decide)]; exact z3
    · rw [upd2_c _ _ (by decide), upd2_k _ _ (by decide)]; exact z4
    · rw [upd2_c _ _ (by decide), upd2_k _ _ (by decide)]; exact z5
    · rw [upd2_k _ _ (by decide)]; exact z6
    · rw [upd2_same, upd2_same]
    · rw [upd2_c _ _ (by decide)]; exact tl i hi
    · rw [upd2_k _ _ (by decide)]; exact l1
  | succ m ih =>
    intro k f L C Z A hm hk hs h7 hI hl hf he
    have hI2 := hI
    obtain ⟨⟨hW, h8, hR, hF⟩, hz, ⟨z1, z2, z3, z4, z5, z6⟩, h4, lb, li, tl, l1⟩ := hI
    have hV := hW.1
    have hA : A 4 = Y 0 6 := by rw [hF 4 (by omega)]; exact hA0
    have l2 := li.1
    obtain ⟨g, rfl⟩ : ∃ g, f = g + 1 := ⟨f - 1, (by omega)⟩
    refine b_Mod_lives_32 (by omega) ?_
    rw [zA_1, clA (z := 4) (j := 4) rfl (by omega), hA, zA_0, z5, iN_le (by omega) (by omega) (by omega) (by omega), iN_eq (by omega) (by omega) (by omega) (by omega)]
    refine ⟨inA (by omega) (by omega), fun c => hK L C Z A (by rw [← he, runF_end c]) hI2, fun c => ⟨fun _ => ?_, fun c2 => absurd c2 (by omega)⟩⟩
    have hk6 : (k : Int) < Y 0 6 := (by omega)
    have k20 : Y 1 k ≠ 20 := by
      rcases hs with q | q
      · omega
      · exact q
    clear hs
    have k60 : k < 60 := (by omega)
    rw [runF_step hk6 h7 k20 (by omega)] at he
    have fr : ∀ A2 : Nat → Int, FrA 0 A0 A2 → ∀ i : Nat, (i : Int) < Y 0 6 → RYr Y A2 0 i := fun A2 hf2 i hi => (hr0 i hi).fr (fun j j1 j2 => hf2 j (by omega)) (by omega)
    have rk := fr A hF k hk6
    have r1 := rk.g
    have kr := kR_rng rk.1
    have hPk := hP.2 k hk6
    have hT := hPk.1
    have p9 := hPk.2.1
    refine b_Mod_lives_60 (by omega) ?_
    rw [zA_0, z5, iN_add, iN_small (by omega) (by omega), zA_u0, iN_mul, iN_add, clA (z := 238 + 6 * (k : Int)) (j := 238 + 6 * k) (by omega) (by omega), zA_1, r1, show 238 + 6 * (k : Int) = ((238 + 6 * k : Nat) : Int) from rfl]
    have I1 : LVI n8 p0 Z0 A0 (upd2 L 0 2 (L 0 2 + 1)) C (upd2 Z 0 28 (L 0 2 + 1)) A := by
      refine ⟨⟨hW, h8, hR, hF⟩, fun c k a b q => ?_, ⟨?_, ?_, ?_, ?_, ?_, ?_⟩, ?_, lb.o 2 _ (by omega), li.f2 _ (by omega) (by omega), fun i hi => ?_, ?_⟩
      · by_cases e : c = 0
        · subst e
          rw [upd2_k _ _ (fun q2 => q ⟨rfl, Or.inr q2⟩)]
          exact hz 0 k a b q
        · rw [upd2_c _ _ e]
          exact hz c k a b q
      · rw [upd2_c _ _ (by decide), upd2_k _ _ (by decide)]; exact z1
      · rw [upd2_c _ _ (by decide), upd2_k _ _ (by decide)]; exact z2
      · rw [upd2_c _ _ (by decide), upd2_k _ _ (by decide)]; exact z3
      · rw [upd2_k _ _ (by decide), upd2_k _ _ (by decide)]; exact z4
      · rw [upd2_same, upd2_same]
      · rw [upd2_c _ _ (by decide)]; exact z6
      · rw [upd2_c _ _ (by decide), upd2_k _ _ (by decide)]; exact h4
      · rw [upd2_c _ _ (by decide)]; exact tl i hi
      · rw [upd2_k _ _ (by decide)]; exact l1
    have hl1 : LPR Y (upd2 L 0 2 (L 0 2 + 1)) (upd2 Z 0 28 (L 0 2 + 1)) k := fun o o1 o2 o3 => by
      rw [upd2_c _ _ (by decide), upd2_c _ _ (by decide)]
      exact hl o o1 o2 o3
    have e2 : upd2 L 0 2 (L 0 2 + 1) 0 2 = L 0 2 + 1 := upd2_same _ _ _ _
    have e7 : upd2 L 0 2 (L 0 2 + 1) 0 7 = 0 := by rw [upd2_k _ _ (by decide)]; exact h7
    generalize upd2 L 0 2 (L 0 2 + 1) = L1 at I1 hl1 e2 e7 he
    generalize upd2 Z 0 28 (L 0 2 + 1) = Z1 at I1 hl1 ⊢
    have I1b := I1
    obtain ⟨_, hz1, lr1, h41, lb1, li1, tl1, l11⟩ := I1b
    have z21 : Z1 0 21 = 0 := by rw [hz1 0 21 (by decide) (by decide) (by simp)]; exact hB
    have rng3 := (wr_rng (L1 0 3))
    refine ⟨inA (by omega) (by omega), fun c => ?_, fun c => ?_⟩
    · have k21 : Y 1 k ≠ 21 := fun e => c (by rw [e]; rfl)
      have go : ∀ (k2 : Nat) (L2 C2 Z2 : Ch) (A2 : Nat → Int), (k2 : Int) ≤ Y 0 6 → L2 0 2 = L 0 2 + 1 → L2 0 7 = 0 → LVI n8 p0 Z0 A0 L2 C2 Z2 A2 → LPR Y L2 Z2 k2 → runF Y g k2 L2 C2 = R → CT l E (d - 1) m_Mod_behindEnds [(.ref 24, 41), (.int (iN (k2 : Int)), 0)] (zA M Z2 A2) (fun v1 M1 => G l E d m_Mod_lives 32 [(0, (.ref 24, 41)), (2, (.int (toI v1), 0))] [] M1 K) := by
        intro k2 L2 C2 Z2 A2 q1 q2 q3 q4 q5 q6
        refine CT.of pn_Mod (Nat.le_of_ble_eq_true rfl) ?_
        have hF2 := q4.1.2.2.2
        have tl2 := q4.2.2.2.2.2.2.1
        refine b_Mod_behindEnds_0 (by omega) (r_ends (by omega) hN hY hYB (by rw [hF2 4 (by omega)]; exact hA0) (fr A2 hF2) 160 k2 L2 Z2 q1 tl2 q5 ?_ (fun Z3 L3 k3 a1 a2 a3 a4 a5 a6 a7 => ?_))
        · by_cases e : k2 < 60
          · have := muE_le (L := L2) hY tl2 e
            exact Or.inr (Or.inr (by omega))
          · exact Or.inl (by omega)
        · obtain ⟨mm, m1, m2⟩ := a7
          have e0 := a6 0 (by decide)
          refine ih k3 (g - mm) L3 C2 Z3 A2 (by rw [e0, q2]; push_cast at hm; omega) a3 a4 (by rw [e0]; exact q3) (q4.ends a1 a6 a5) a2 (by omega) ?_
          have := m2 (g - mm) C2 q3
          rw [show g - mm + mm = g by omega] at this
          rw [← this]
          exact q6
      refine b_Mod_lives_91 (by omega) ⟨iN_in (by omega) (by omega) (by omega), ?_⟩
      rw [zA_c M Z1 A (show 12 ≠ 1 by decide), cl4 (z := 0) (j := 0) rfl (by omega), lr1.1, wr_iN, wr_iN]
      have kk : (Y 1 k = 3 ∨ Y 1 k = 9 ∨ Y 1 k = 11 ∨ Y 1 k = 12 ∨ Y 1 k = 13 ∨ Y 1 k = 14 ∨ Y 1 k = 15) ∨ Y 1 k = 19 ∨ (Y 1 k = 1 ∨ Y 1 k = 17 ∨ Y 1 k = 18) := by
        have := rk.1
        unfold kOk at this
        omega
      have l03 : wr (L1 0 3 + 0) = L1 0 3 := by rw [Int.add_zero]; exact lb1 3 (by omega)
      rcases kk with hk7 | hk19 | hkc
      · have keep := lifeDo_keep (L := L1) hW lb1 hk7 p9
        have inv := lifeDo_inv (L := L1) hY hT k60 li1 hV
        have es : stepC2 Y L1 C k = ((k : Int) + 1, missC (lifeDo Y L1 C k), (lifeDo Y L1 C k).2.2) := by
          unfold stepC2
          rw [if_neg (by omega), if_neg k21]
        rw [es] at he
        dsimp only at he
        have nk : kR (Y 1 k) < 1600 ∧ kR (Y 1 k) ≠ 17 := by
          rcases hk7 with e | e | e | e | e | e | e
          all_goals (rw [e]; decide +kernel)
        refine r_does (by omega) z21 hW hR li1 lr1 lb1 hY k60 hT rk hk7 p9 (fun Z2 A2 hR2 hf2 zd2 lr2 => ?_)
        generalize lifeDo Y L1 C k = q at keep inv he hR2 lr2 ⊢
        obtain ⟨bb, L2, C2⟩ := q
        obtain ⟨⟨k1, k2, k3⟩, k4, k5⟩ := keep
        dsimp only at k1 k2 k3 k4 k5 inv he hR2 lr2
        unfold missC at he
        dsimp only at he
        have hF2 : FrA 0 A0 A2 := hF.tr hf2
        have hz2 : ZLV Z0 Z2 := fun c j a b q => by
          rw [zd2 c j (by omega) (by omega)]
          exact hz1 c j a b q
        have r2 : A2 (238 + 6 * k) = kR (Y 1 k) := by rw [hf2 _ (by omega)]; exact r1
        have nxt : ∀ v : Int, wr (L2 0 3 + if bb then 0 else 1) = wr v → G l E d m_Mod_lives 113 [(0, (.ref 24, 41)), (2, (.int (iN (k : Int)), 0)), (3, (.int (iN ((238 + 6 * k : Nat) : Int)), 0))] [] (zA M (upd2 Z2 12 0 (wr v)) A2) K := by
          intro v hv
          rw [hv] at he
          refine b_Mod_lives_113 (by omega) ?_
          rw [zA_1, clA (z := ((238 + 6 * k : Nat) : Int)) (j := 238 + 6 * k) rfl (by omega), r2]
          refine ⟨inA (by omega) (by omega), fun _ => b_Mod_lives_140 (by omega) ?_, fun c3 => absurd ((iN_eq (by omega) (by omega) (by omega) (by omega)).mp c3) nk.2⟩
          rw [zA_1, clA (z := ((238 + 6 * k : Nat) : Int)) (j := 238 + 6 * k) rfl (by omega), r2]
          refine ⟨inA (by omega) (by omega), fun _ => ?_, fun c3 => absurd ((iN_lt (by omega) (by omega) (by omega) (by omega)).mpr nk.1) c3⟩
          rw [iN_add]
          have lz : Z2 12 4 = L1 0 7 := by rw [zd2 12 4 (by omega) (by omega)]; exact h41
          refine go (k + 1) (upd2 L2 0 3 (wr v)) C2 (upd2 Z2 12 0 (wr v)) A2 (by push_cast; omega) ?_ ?_ ⟨⟨k4, by rw [k5]; exact h8, hR2, hF2⟩, fun c j a b q => by rw [upd2_c _ _ b]; exact hz2 c j a b q, ⟨?_, ?_, ?_, ?_, ?_, ?_⟩, ?_, k3.u 3 v, inv.1.f 3 _ (by decide) (by decide) (by decide), fun i hi => ?_, ?_⟩ ?_ he
          · rw [upd2_k _ _ (by decide), k2 2 (by decide) (by decide) (by decide)]; exact e2
          · rw [upd2_k _ _ (by decide), k2 7 (by decide) (by decide) (by decide)]; exact e7
          · rw [upd2_same, upd2_same]
          · rw [upd2_k _ _ (by decide), upd2_k _ _ (by decide)]; exact lr2.2.1
          · rw [upd2_k _ _ (by decide), upd2_k _ _ (by decide)]; exact lr2.2.2.1
          · rw [upd2_c _ _ (by decide), upd2_k _ _ (by decide)]; exact lr2.2.2.2.1
          · rw [upd2_c _ _ (by decide), upd2_k _ _ (by decide)]; exact lr2.2.2.2.2.1
          · rw [upd2_k _ _ (by decide)]; exact lr2.2.2.2.2.2
          · rw [upd2_k _ _ (by decide), upd2_k _ _ (by decide), k2 7 (by decide) (by decide) (by decide)]; exact lz
          · rw [upd2_c _ _ (by decide), k1]; exact tl1 i hi
          · rw [upd2_k _ _ (by decide), k2 1 (by decide) (by decide) (by decide)]; exact l11
          · intro o o1 o2 o3
            have ne : o ≠ k := fun q => by subst q; omega
            push_cast at o1 o2
            rw [upd2_c _ _ (show 11 ≠ 12 by decide), upd2_c _ _ (show 1 ≠ 0 by decide), k1, zd2 11 o (by omega) (by omega)]
            exact hl1 o (by omega) (by omega) o3
        simp only [zA_uo M Z2 A2 (show 12 ≠ 1 by decide)]
        rw [toI_int, b2i_z]
        have k23 := k2 3 (by decide) (by decide) (by decide)
        refine ⟨fun c2 => ⟨iN_in (by omega) (by omega) (by omega), nxt _ ?_⟩, fun c2 => ⟨iN_in (by omega) (by omega) (by omega), nxt _ ?_⟩⟩
        · rw [c2, k23]; rfl
        · rw [Bool.not_eq_false] at c2
          rw [c2, k23]; rfl
      · have es : stepC2 Y L1 C k = ((k : Int) + 1, missC (true, upd2 L1 1 k (Y 4 k - 1), C), C) := by
          unfold stepC2
          rw [if_neg (by omega), if_neg k21]
          unfold lifeDo
          rw [if_neg (by omega), if_neg (by omega), if_neg (by omega), if_neg (by omega), if_neg (by omega), if_neg (by omega), if_pos hk19]
        rw [es] at he
        unfold missC at he
        dsimp only at he
        rw [if_pos rfl, upd2_c _ _ (show 0 ≠ 1 by decide), l03] at he
        have p := hPk.2.2.1 hk19
        have r17 : kR (Y 1 k) = 17 := by rw [hk19]; rfl
        have ra := rk.gL hk19
        refine r_does0 (by omega) k60 rk (Or.inl hk19) ?_
        simp only [zA_uo M Z1 A (show 12 ≠ 1 by decide)]
        rw [toI_int, l03]
        refine ⟨fun c2 => absurd c2 (by decide +kernel), fun _ => ⟨iN_in (by omega) (by omega) (by omega), b_Mod_lives_113 (by omega) ?_⟩⟩
        rw [zA_1, clA (z := ((238 + 6 * k : Nat) : Int)) (j := 238 + 6 * k) rfl (by omega), iN_add, clA (z := ((238 + 6 * k : Nat) : Int) + 1) (j := 238 + 6 * k + 1) (by omega) (by omega), r1, r17, ra, iN_sub, iN_small (by omega) (by omega), iN_clN (by omega), zA_uo M _ A (show 11 ≠ 1 by decide)]
        refine ⟨inA (by omega) (by omega), fun c2 => absurd rfl c2, fun _ => ⟨inA (by omega) (by omega), iN_in (by omega) (by omega) (by omega), b_Mod_lives_140 (by omega) ?_⟩⟩
        rw [zA_1, clA (z := ((238 + 6 * k : Nat) : Int)) (j := 238 + 6 * k) rfl (by omega), r1, r17]
        refine ⟨inA (by omega) (by omega), fun _ => ?_, fun c3 => absurd ((iN_lt (by omega) (by omega) (by omega) (by omega)).mpr (by omega)) c3⟩
        rw [iN_add]
        refine go (k + 1) _ C _ A (by push_cast; omega) ?_ ?_ ⟨⟨hW, h8, hR, hF⟩, fun c j a b q => by rw [upd2_c _ _ a, upd2_c _ _ b]; exact hz1 c j a b q, ⟨?_, ?_, ?_, ?_, ?_, ?_⟩, ?_, ?_, ?_, fun i hi => ?_, ?_⟩ (fun o o1 o2 o3 => ?_) he
        · rw [upd2_k _ _ (by decide), upd2_c _ _ (by decide)]; exact e2
        · rw [upd2_k _ _ (by decide), upd2_c _ _ (by decide)]; exact e7
        · rw [upd2_c _ _ (by decide), upd2_same, upd2_same]
        · rw [upd2_c _ _ (by decide), upd2_k _ _ (by decide), upd2_k _ _ (by decide), upd2_c _ _ (by decide)]; exact lr1.2.1
        · rw [upd2_c _ _ (by decide), upd2_k _ _ (by decide), upd2_k _ _ (by decide), upd2_c _ _ (by decide)]; exact lr1.2.2.1
        · rw [upd2_c _ _ (by decide), upd2_c _ _ (by decide), upd2_k _ _ (by decide), upd2_c _ _ (by decide)]; exact lr1.2.2.2.1
        · rw [upd2_c _ _ (by decide), upd2_c _ _ (by decide), upd2_k _ _ (by decide), upd2_c _ _ (by decide)]; exact lr1.2.2.2.2.1
        · rw [upd2_c _ _ (by decide), upd2_k _ _ (by decide)]; exact lr1.2.2.2.2.2
        · rw [upd2_c _ _ (by decide), upd2_k _ _ (by decide), upd2_k _ _ (by decide), upd2_c _ _ (by decide)]; exact h41
        · intro j a
          rw [upd2_at]
          split
          · exact lb1 3 (by omega)
          · rw [upd2_c _ _ (by decide)]; exact lb1 j a
        · exact (li1.t k _ (by omega) (by omega)).f 3 _ (by decide) (by decide) (by decide)
        · rw [upd2_c _ _ (by decide), upd2_at]
          split
          · omega
          · exact tl1 i hi
        · rw [upd2_k _ _ (by decide), upd2_c _ _ (by decide)]; exact l11
        · rw [upd2_at, upd2_c _ _ (show 11 ≠ 12 by decide), upd2_c _ _ (show 1 ≠ 0 by decide), upd2_at]
          split
          · rfl
          · push_cast at o1 o2
            exact hl1 o (by omega) (by omega) o3
      · have es : stepC2 Y L1 C k = (if holdsB Y C k then (k : Int) + 1 else Y 6 k + 1, L1, C) := by
          unfold stepC2
          rw [if_pos hkc]
        rw [es] at he
        dsimp only at he
        have r16 : ¬ kR (Y 1 k) < 1600 := by
          rcases hkc with e | e | e
          all_goals (rw [e]; decide +kernel)
        obtain ⟨p, hp, hp1, hp2, hp3, hp4⟩ := hN.2.1 k hk6 (by unfold opn; omega)
        have ra : A (238 + 6 * k + 4) = p := by rw [rk.g4 (by omega)]; exact hp
        refine r_does0 (by omega) k60 rk (by omega) ?_
        simp only [zA_uo M Z1 A (show 12 ≠ 1 by decide)]
        rw [toI_int, l03]
        have z12 : upd2 Z1 12 0 (L1 0 3) = Z1 := by rw [← lr1.1]; exact upd2_id _ _ _
        rw [z12]
        refine ⟨fun c2 => absurd c2 (by decide +kernel), fun _ => ⟨iN_in (by omega) (by omega) (by omega), b_Mod_lives_113 (by omega) ?_⟩⟩
        rw [zA_1, clA (z := ((238 + 6 * k : Nat) : Int)) (j := 238 + 6 * k) rfl (by omega), r1]
        refine ⟨inA (by omega) (by omega), fun _ => b_Mod_lives_140 (by omega) ?_, fun c3 => absurd ((iN_eq (by omega) (by omega) (by omega) (by omega)).mp c3) (by omega)⟩
        rw [zA_1, clA (z := ((238 + 6 * k : Nat) : Int)) (j := 238 + 6 * k) rfl (by omega), r1]
        refine ⟨inA (by omega) (by omega), fun c3 => absurd ((iN_lt (by omega) (by omega) (by omega) (by omega)).mp c3) r16, fun _ => r_holds (by omega) z21 hW hR hY k60 hT rk hkc (by rw [h8]; exact hPk.2.2.2.1 hkc) (by rw [h8]; exact hPk.2.2.2.2) ?_⟩
        rw [toI_int, b2i_z]
        simp only [iN_add]
        refine ⟨fun c3 => ?_, fun c3 => ⟨inA (by omega) (by omega), ?_⟩⟩
        · rw [Bool.not_eq_false] at c3
          rw [c3, if_pos rfl] at he
          exact go (k + 1) L1 C Z1 A (by push_cast; omega) e2 e7 I1 (hl1.nx (by omega) (fun _ _ _ _ => rfl)) he
        · rw [c3, if_neg (by simp), hp] at he
          rw [zA_1, clA (z := ((238 + 6 * k : Nat) : Int) + 4) (j := 238 + 6 * k + 4) (by omega) (by omega), ra]
          refine go (p + 1) L1 C Z1 A (by push_cast; omega) e2 e7 I1 (fun o o1 o2 o3 => ?_) he
          push_cast at o1 o2
          have n1 : o ≠ k := fun q => by subst q; omega
          have n2 : o ≠ p := fun q => by subst q; omega
          by_cases q : o < k
          · exact hl1 o (by omega) (by omega) o3
          · have := hN.2.2 k o hk6 (by omega) (by unfold opn; omega) (Or.inr (Or.inr (Or.inr o3))) (by omega) (by omega)
            omega
    · have k21 := kR_19 rk.1 c
      have es : stepC2 Y L1 C k = (Y 0 6, L1, C) := by
        unfold stepC2
        rw [if_neg (by omega), if_pos k21]
      rw [es] at he
      dsimp only at he
      obtain ⟨g2, rfl⟩ : ∃ g2, g = g2 + 1 := ⟨g - 1, (by omega)⟩
      rw [runF_end (Int.le_refl _)] at he
      exact hK L1 C Z1 A he I1
