theorem slot_2 (C : Ch) (s : Nat) (v : Int) (x : Int) (b : Nat) : slotOfC (upd2 C 2 s v) x b = slotOfC C x b := by
  unfold slotOfC
  rw [upd2_c _ _ (by decide), upd2_c _ _ (by decide)]
theorem place_2 (C : Ch) (s : Nat) (v : Int) (x y : Int) : placeOfC (upd2 C 2 s v) x y = placeOfC C x y := by
  unfold placeOfC
  rw [upd2_c _ _ (by decide), upd2_c _ _ (by decide), upd2_c _ _ (by decide)]
theorem take_2 (C : Ch) (s : Nat) (v : Int) (i : Nat) (n : Int) : takeOffC (upd2 C 2 s v) i n = upd2 (takeOffC C i n) 2 s v := by
  unfold takeOffC
  rw [upd2_c _ _ (by decide)]
  split
  · rw [upd2_comm _ _ _ _ _ (show 2 ≠ 7 by decide), upd2_comm _ _ _ _ _ (show 2 ≠ 6 by decide)]
  · rw [upd2_comm _ _ _ _ _ (show 2 ≠ 7 by decide)]
theorem join_2 (C : Ch) (s : Nat) (v a b n : Int) : joinC (upd2 C 2 s v) a b n = upd2 (joinC C a b n) 2 s v := by
  unfold joinC
  rw [upd2_c _ _ (show 8 ≠ 2 by decide), upd2_comm _ _ _ _ _ (show 2 ≠ 9 by decide), upd2_comm _ _ _ _ _ (show 2 ≠ 10 by decide), upd2_comm _ _ _ _ _ (show 2 ≠ 11 by decide), upd2_comm _ _ _ _ _ (show 2 ≠ 8 by decide)]
theorem owe_2 (C : Ch) (s : Nat) (v a : Int) (b : Nat) (n : Int) : (oweC (upd2 C 2 s v) a b n).2 = upd2 (oweC C a b n).2 2 s v := by
  unfold oweC
  simp only [slot_2, place_2, join_2, upd2_c C v (show 7 ≠ 2 by decide), upd2_c C v (show 11 ≠ 2 by decide), upd2_c C v (show 8 ≠ 2 by decide)]
  split
  · split
    · exact upd2_comm _ _ _ _ _ (show 2 ≠ 7 by decide)
    · rfl
  · split
    · split
      · exact upd2_comm _ _ _ _ _ (show 2 ≠ 11 by decide)
      · rfl
    · split
      · split <;> rfl
      · show upd2 (upd2 (upd2 C 2 s v) 6 _ _) 7 _ _ = _
        rw [upd2_comm _ _ _ _ _ (show 2 ≠ 6 by decide), upd2_comm _ _ _ _ _ (show 2 ≠ 7 by decide)]
theorem leave_2 (C : Ch) (s : Nat) (v : Int) (k : Nat) : leaveC (upd2 C 2 s v) k = upd2 (leaveC C k) 2 s v := by
  unfold leaveC
  rw [upd2_c _ _ (show 8 ≠ 2 by decide), upd2_comm _ _ _ _ _ (show 8 ≠ 2 by decide)]
  congr 1
  funext c i
  unfold shC upd2
  by_cases e : c = 2
  · subst e; simp
  · simp [e]
theorem inh_2 (C : Ch) (s : Nat) (v heir : Int) (b : Nat) (n : Int) : inhC (upd2 C 2 s v) heir b n = upd2 (inhC C heir b n) 2 s v := by
  unfold inhC
  split
  · rfl
  · exact owe_2 C s v heir b n
theorem passF_2 (s t : Nat) (heir v : Int) : ∀ (m b : Nat) (C : Ch), passF s heir m b (upd2 C 2 t v) = upd2 (passF s heir m b C) 2 t v
  | 0, _, _ => rfl
  | m + 1, b, C => by
    unfold passF
    rw [slot_2, upd2_c C v (show 7 ≠ 2 by decide)]
    split
    · exact passF_2 s t heir v m (b + 1) C
    · rw [take_2, inh_2]
      exact passF_2 s t heir v m (b + 1) _
theorem passW_2 (s t : Nat) (heir v : Int) : ∀ (f k : Nat) (C : Ch), passW s heir f k (upd2 C 2 t v) = upd2 (passW s heir f k C) 2 t v
  | 0, _, _ => rfl
  | f + 1, k, C => by
    unfold passW
    rw [upd2_c C v (show 8 ≠ 2 by decide), upd2_c C v (show 9 ≠ 2 by decide), upd2_c C v (show 10 ≠ 2 by decide), upd2_c C v (show 11 ≠ 2 by decide), leave_2, inh_2]
    split
    · split
      · exact passW_2 s t heir v f k _
      · exact passW_2 s t heir v f (k + 1) C
    · rfl
theorem forgL_2 (s t : Nat) (v : Int) : ∀ (m k : Nat) (C : Ch), forgL s m k (upd2 C 2 t v) = upd2 (forgL s m k C) 2 t v
  | 0, _, _ => rfl
  | m + 1, k, C => by
    unfold forgL
    rw [upd2_c C v (show 7 ≠ 2 by decide), take_2]
    exact forgL_2 s t v m (k + 1) _
theorem forgW_2 (s t : Nat) (v : Int) : ∀ (f k : Nat) (C : Ch), forgW s f k (upd2 C 2 t v) = upd2 (forgW s f k C) 2 t v
  | 0, _, _ => rfl
  | f + 1, k, C => by
    unfold forgW
    rw [upd2_c C v (show 8 ≠ 2 by decide), upd2_c C v (show 10 ≠ 2 by decide), leave_2]
    split
    · split
      · exact forgW_2 s t v f k _
      · exact forgW_2 s t v f (k + 1) C
    · rfl
/-- before the dead one's purse is emptied -/
def buryD (C : Ch) (s : Nat) : Ch := if heirC C s = -1 then C else upd2 C 2 (heirC C s).toNat (min 9999 (C 2 (heirC C s).toNat + C 2 s))
theorem bury1_D (C : Ch) (s : Nat) : buryC1 C s = upd2 (forgC (passW s (heirC C s) 8 0 (passF s (heirC C s) (C 0 8).toNat 0 (buryD C s))) s) 2 s 0 := by
  have e : buryC0 C s = upd2 (buryD C s) 2 s 0 := rfl
  unfold buryC1 forgC
  rw [e, passF_2, passW_2, upd2_c _ _ (show 4 ≠ 2 by decide), forgL_2, forgW_2]
theorem c_isDead {l : Launch} {E : EnvT} {d : Nat} {K : AV → Mem → Prop} {M : Mem} {C Z : Ch} {A : Nat → Int} {s : Nat} (hd : 3 ≤ d) (hB : Z 0 21 = 0) (hV : VB C) (hR : RR C A 0) (hs : (s : Int) < C 0 8) (h : K (.int (iN (b2i (inS (C 0 12) s))), 0) (zA M Z A)) : CT l E d m_Mod_isDead [(.ref 24, 41), (.int (iN s), 0)] (zA M Z A) K := by
  refine CT.of pn_Mod (Nat.le_of_ble_eq_true rfl) ?_
  have hn := hV.n
  have c1 : ∀ x : Bool, (iN (b2i x) = iN 1 ↔ x = true) := by intro x; cases x <;> decide +kernel
  refine b_Mod_isDead_0 (by omega) (c_of (B := 0) (w := 6) (by omega) hB (by omega) (by omega) (by omega) ?_)
  rw [(hR.2.1 s hs).2.2.2.2.2.2, toI_int, c1]
  refine ⟨fun c => ⟨z01, ?_⟩, fun c => ⟨o01, ?_⟩⟩
  · rw [Bool.not_eq_true] at c; rw [c] at h; exact h
  · rw [c] at h; exact h
theorem c_dies {l : Launch} {E : EnvT} {d : Nat} {K : AV → Mem → Prop} {M : Mem} {C Z : Ch} {A : Nat → Int} {s : Nat} (hd : 7 ≤ d) (hB : Z 0 21 = 0) (hW : WC C) (hR : RR C A 0) (ha : livesB C s = true) (h : ∀ A', RR (buryC C s).2 A' 0 → FrA 0 A A' → K (.null, 0) (zA M Z A')) : CT l E d m_Mod_dies [(.ref 24, 41), (.int (iN s), 0)] (zA M Z A) K := by
  refine CT.of pn_Mod (Nat.le_of_ble_eq_true rfl) ?_
  have hV := hW.1
  have hn := hV.n
  obtain ⟨ta, la⟩ := livesB_alv ha
  rw [show ((s : Int)).toNat = s from rfl] at la
  have s8 : s < 8 := (by omega)
  unfold buryC at h
  rw [if_pos ha, show ((s : Int)).toNat = s from rfl, bury1_D] at h
  have hr0 := HR_heir hW ta.2
  have hrr := heirC_rng hV s8
  obtain ⟨n, hnn⟩ : ∃ n : Nat, C 0 8 = n := ⟨(C 0 8).toNat, (by omega)⟩
  rw [hnn, show ((n : Int)).toNat = n from rfl] at h
  have b1 := WC_bury1 hW ta.2
  rw [bury1_D, hnn, show ((n : Int)).toNat = n from rfl] at b1
  have w9 := hW.2.2.2.2.2.2.2.2.2.1 s ta.2
  generalize hH : heirC C s = heir at h hr0 hrr b1
  -- the end
  have s224 : ∀ (f k : Nat) (D : Ch) (A' : Nat → Int), VB D → RR D A' 0 → FrA 0 A A' → D 0 = C 0 → k ≤ 100 → noB D s (fun j => j < k ∨ k + f ≤ j) → forgW s f k D = forgC (passW s heir 8 0 (passF s heir n 0 (buryD C s))) s → G l E d m_Mod_dies 224 [(0, (.ref 24, 41)), (1, (.int (iN s), 0)), (3, (.int (iN k), 0))] [] (zA M Z A') K := by
    have fin : ∀ (D : Ch) (A' : Nat → Int), VB D → RR D A' 0 → FrA 0 A A' → D 0 = C 0 → D = forgC (passW s heir 8 0 (passF s heir n 0 (buryD C s))) s → CT l E (d - 1) m_Mod_singerRow [(.int (iN s), 0)] (zA M Z A') (fun v1 M1 => (vp_in (toI v1) 3612 ∧ CT l E (d - 1) m_Mod_singerRow [(.int (iN s), 0)] (upd3 M1 24 1 ((toI v1)).toNatClampNeg ((iN 0)).toInt) (fun v2 M2 => (vp_in ((toI v2) + (iN 3)) 3612 ∧ CT l E (d - 1) m_Mod_singerRow [(.int (iN s), 0)] (upd3 M2 24 1 (((toI v2) + (iN 3))).toNatClampNeg ((iN 0)).toInt) (fun v3 M3 => (vp_in ((toI v3) + (iN 6)) 3612 ∧ CT l E (d - 1) m_Mod_fills [(.ref 24, 41)] (upd3 M3 24 1 (((toI v3) + (iN 6))).toNatClampNeg ((iN 1)).toInt) (fun v4 M4 => K (.null, 0) M4))))))) := by
      intro D A' vD r f d0 he
      rw [← he] at h b1
      have m11 := vD.ms 11 (by omega) (by omega)
      have m12 := vD.ms 12 (by omega) (by omega)
      have r1 := RR_2 (t := s) (v := 0) vD r s8
      have v1 := VB_2 (k := s) (v := 0) vD (by omega) (by omega)
      have r2 := RR_cold (t := s) (m' := clrB (C 0 11) s) (b := false) v1 r1 s8 (fun t => by
        rw [upd2_c _ _ (show 0 ≠ 2 by decide), ← d0, inS_clrB m11.1 m11.2 s8]
        by_cases e : t = s
        · simp [e]
        · simp [e])
      have c11 := clrB_rng (s := s) m11.1 m11.2 s8
      rw [d0] at c11
      have v2 := VB_f11 (v := clrB (C 0 11) s) v1 c11.1 c11.2
      have r3 := RR_dead (t := s) (m' := setB (C 0 12) s) (b := true) v2 r2 s8 (fun t => by
        rw [upd2_k _ _ (show 12 ≠ 11 by decide), upd2_c _ _ (show 0 ≠ 2 by decide), ← d0, inS_setB m12.1 m12.2 s8]
        by_cases e : t = s
        · simp [e]
        · simp [e])
      refine c_singerRow (by omega) ?_
      rw [toI_int, zA_u, clA (j := 0 + 6 + 8 * s + 0) (by omega) (by omega), iN_0I]
      refine ⟨inA (by omega) (by omega), c_singerRow (by omega) ?_⟩
      rw [toI_int, iN_add, zA_u, clA (j := 0 + 6 + 8 * s + 3) (by omega) (by omega)]
      refine ⟨inA (by omega) (by omega), c_singerRow (by omega) ?_⟩
      rw [toI_int, iN_add, zA_u, clA (j := 0 + 6 + 8 * s + 6) (by omega) (by omega), iN_1I]
      refine ⟨inA (by omega) (by omega), ?_⟩
      obtain ⟨g0, g1, g2, g3, g4, g5, g6⟩ := b1
      have q := WC_cold0 (s := s) g0 s8
      have e11 : upd2 D 2 s 0 0 11 = C 0 11 := by rw [g1]
      rw [e11] at q
      have q2 := WC_dead (s := s) q (by rw [upd2_k _ _ (by decide), g1]; omega) (by rw [upd2_c _ _ (show 2 ≠ 0 by decide)]; exact g2) (fun j hj _ => by rw [upd2_c _ _ (show 6 ≠ 0 by decide)]; exact g3 j hj trivial) (fun j hj hl => by rw [upd2_c _ _ (show 6 ≠ 0 by decide)]; exact g4 j hj hl) (fun j hj _ => by rw [upd2_c _ _ (show 8 ≠ 0 by decide)] at hj; rw [upd2_c _ _ (show 9 ≠ 0 by decide)]; exact g5 j hj trivial) (fun j hj _ => by rw [upd2_c _ _ (show 8 ≠ 0 by decide)] at hj; rw [upd2_c _ _ (show 10 ≠ 0 by decide)]; exact g6 j hj trivial)
      rw [upd2_k _ _ (show 12 ≠ 11 by decide), g1] at q2
      exact c_fills (B := 0) (by omega) hB (by omega) q2 r3 (fun A4 r4 f4 => h A4 r4 ((((f.u _ (by omega) (by omega)).u _ (by omega) (by omega)).u _ (by omega) (by omega)).tr f4))
    intro f
    induction f with
    | zero =>
      intro k D A' vD r fA d0 k9 hb he
      have he : D = _ := he
      have w := vD.w
      have step : ∀ (m k : Nat), D 8 3 - k ≤ m → k ≤ 100 → G l E d m_Mod_dies 224 [(0, (.ref 24, 41)), (1, (.int (iN s), 0)), (3, (.int (iN k), 0))] [] (zA M Z A') K := by
        intro m
        induction m with
        | zero =>
          intro k hm k9
          refine b_Mod_dies_224 (by omega) ?_
          simp only [zA_1]
          rw [clA (z := 5) (j := 0 + 5) (by omega) (by omega), r.1.2.2.2.2]
          exact ⟨inA (by omega) (by omega), fun _ => fin D A' vD r fA d0 he, fun c => absurd ((iN_le (by omega) (by omega) (by omega) (by omega)).mpr (by omega)) c⟩
        | succ m ih =>
          intro k hm k9
          refine b_Mod_dies_224 (by omega) ?_
          simp only [zA_1, iN_mul, iN_add]
          rw [clA (z := 5) (j := 0 + 5) (by omega) (by omega), r.1.2.2.2.2, iN_le (by omega) (by omega) (by omega) (by omega)]
          refine ⟨inA (by omega) (by omega), fun _ => fin D A' vD r fA d0 he, fun c => ?_⟩
          have q := r.2.2.2.2 k (by omega)
          have wb := vD.wb k (by omega)
          have nb := hb k (by omega) (by omega)
          rw [clA (z := (214 : Int) + 3 * k + 1) (j := 0 + 214 + 3 * k + 1) (by omega) (by omega), q.2.1, iN_eq (by omega) (by omega) (by omega) (by omega)]
          exact ⟨inA (by omega) (by omega), fun _ => ih (k + 1) (by push_cast; omega) (by omega), fun c2 => absurd c2 nb⟩
      exact step (D 8 3).toNat k (by omega) k9
    | succ f ih =>
      intro k D A' vD r fA d0 k9 hb he
      have w := vD.w
      refine b_Mod_dies_224 (by omega) ?_
      simp only [zA_1, iN_mul, iN_add]
      rw [clA (z := 5) (j := 0 + 5) (by omega) (by omega), r.1.2.2.2.2, iN_le (by omega) (by omega) (by omega) (by omega)]
      unfold forgW at he
      refine ⟨inA (by omega) (by omega), fun c => fin D A' vD r fA d0 (by rw [if_neg (by omega)] at he; exact he), fun c => ?_⟩
      rw [if_pos (by omega)] at he
      have q := r.2.2.2.2 k (by omega)
      have wb := vD.wb k (by omega)
      rw [clA (z := (214 : Int) + 3 * k + 1) (j := 0 + 214 + 3 * k + 1) (by omega) (by omega), q.2.1, iN_eq (by omega) (by omega) (by omega) (by omega)]
      refine ⟨inA (by omega) (by omega), fun c2 => ih (k + 1) D A' vD r fA d0 (by omega) (fun j hj hl => ?_) (by rw [if_neg c2] at he; exact he), fun c2 => c_leaves (B := 0) (by omega) hB (by omega) vD r (by omega) (fun A2 r2 f2 => ?_)⟩
      · by_cases e : j = k
        · subst e; exact c2
        · exact hb j hj (by omega)
      · rw [if_pos c2] at he
        refine ih k _ A2 (VB_leave vD k (by omega)) r2 (fA.tr f2) (by rw [leaveC_c (by omega)]; exact d0) k9 (fun j hj hl => ?_) he
        rw [leaveC_8] at hj
        rw [leaveC_at D k (Or.inr (Or.inl rfl)) j hj]
        split
        · exact hb (j + 1) (by omega) (by omega)
        · exact hb j (by omega) (by omega)
  have s196 : ∀ (m k : Nat) (D : Ch) (A' : Nat → Int), (k + m : Nat) = (D 4 s).toNat → VB D → RR D A' 0 → FrA 0 A A' → D 0 = C 0 → forgW s 8 0 (forgL s m k D) = forgC (passW s heir 8 0 (passF s heir n 0 (buryD C s))) s → G l E d m_Mod_dies 196 [(0, (.ref 24, 41)), (1, (.int (iN s), 0)), (4, (.int (iN k), 0))] [] (zA M Z A') K := by
    intro m
    induction m with
    | zero =>
      intro k D A' hk vD r fA d0 he
      have le := vD.le s s8
      have w := vD.w
      refine b_Mod_dies_196 (by omega) (c_of (B := 0) (w := 1) (by omega) hB (by omega) (by omega) (by omega) ?_)
      rw [(r.2.1 s (by rw [d0]; omega)).2.1, toI_int]
      refine ⟨fun _ => s224 8 0 D A' vD r fA d0 (by omega) (fun j hj hl => by omega) he, fun c => absurd ((iN_le (by omega) (by omega) (by omega) (by omega)).mpr (by omega)) c⟩
    | succ m ih =>
      intro k D A' hk vD r fA d0 he
      have le := vD.le s s8
      unfold forgL at he
      refine b_Mod_dies_196 (by omega) (c_of (B := 0) (w := 1) (by omega) hB (by omega) (by omega) (by omega) ?_)
      rw [(r.2.1 s (by rw [d0]; omega)).2.1, toI_int, iN_add]
      refine ⟨fun c => absurd ((iN_le (by omega) (by omega) (by omega) (by omega)).mp c) (by omega), fun _ => c_stands (B := 0) (by omega) hB (by omega) s8 (by omega) (by omega) (by omega) (by omega) (by omega) ?_⟩
      have r2 := RR_stands (i := 6 * s + k) (who := -1) (v := 0) vD r (by omega) (by omega) (by omega)
      have e : upd2 (upd2 D 6 (6 * s + k) (if (0 : Int) = 0 then -1 else -1)) 7 (6 * s + k) 0 = takeOffC D (6 * s + k) (D 7 (6 * s + k)) := by
        unfold takeOffC
        rw [if_pos rfl, if_pos (by omega), show D 7 (6 * s + k) - D 7 (6 * s + k) = 0 by omega, upd2_comm _ _ _ _ _ (show 6 ≠ 7 by decide)]
      rw [e] at r2
      have de := vD.de (6 * s + k) (by omega)
      exact ih (k + 1) _ _ (by rw [takeOffC_c (by decide) (by decide)]; omega) (VB_takeOff vD (by omega) (by omega) (by omega)) r2 (fA.tr (FrA_stands (by omega))) (by rw [takeOffC_c (by decide) (by decide)]; exact d0) he
  have s130 : ∀ (f k : Nat) (D : Ch) (A' : Nat → Int), WC D → RR D A' 0 → FrA 0 A A' → D 0 = C 0 → D 4 = C 4 → k ≤ 100 → noW D s (fun j => j < k ∨ k + f ≤ j) → passW s heir f k D = passW s heir 8 0 (passF s heir n 0 (buryD C s)) → G l E d m_Mod_dies 130 [(0, (.ref 24, 41)), (1, (.int (iN s), 0)), (2, (.int (iN heir), 0)), (3, (.int (iN k), 0))] [] (zA M Z A') K := by
    have goon : ∀ (D : Ch) (A' : Nat → Int), WC D → RR D A' 0 → FrA 0 A A' → D 0 = C 0 → D = passW s heir 8 0 (passF s heir n 0 (buryD C s)) → G l E d m_Mod_dies 196 [(0, (.ref 24, 41)), (1, (.int (iN s), 0)), (4, (.int (iN 0), 0))] [] (zA M Z A') K := by
      intro D A' wD r f d0 he
      refine s196 (D 4 s).toNat 0 D A' (by omega) wD.1 r f d0 ?_
      rw [← he]
      rfl
    intro f
    induction f with
    | zero =>
      intro k D A' wD r fA d0 d4 k9 hb he
      have he : D = _ := he
      have vD := wD.1
      have w := vD.w
      have step : ∀ (m k : Nat), D 8 3 - k ≤ m → k ≤ 100 → G l E d m_Mod_dies 130 [(0, (.ref 24, 41)), (1, (.int (iN s), 0)), (2, (.int (iN heir), 0)), (3, (.int (iN k), 0))] [] (zA M Z A') K := by
        intro m
        induction m with
        | zero =>
          intro k hm k9
          refine b_Mod_dies_130 (by omega) ?_
          simp only [zA_1]
          rw [clA (z := 5) (j := 0 + 5) (by omega) (by omega), r.1.2.2.2.2]
          exact ⟨inA (by omega) (by omega), fun _ => goon D A' wD r fA d0 he, fun c => absurd ((iN_le (by omega) (by omega) (by omega) (by omega)).mpr (by omega)) c⟩
        | succ m ih =>
          intro k hm k9
          refine b_Mod_dies_130 (by omega) ?_
          simp only [zA_1, iN_mul, iN_add]
          rw [clA (z := 5) (j := 0 + 5) (by omega) (by omega), r.1.2.2.2.2, iN_le (by omega) (by omega) (by omega) (by omega)]
          refine ⟨inA (by omega) (by omega), fun _ => goon D A' wD r fA d0 he, fun c => ?_⟩
          have q := r.2.2.2.2 k (by omega)
          have wa := vD.wa k (by omega)
          have nb := hb k (by omega) (by omega)
          rw [clA (z := (214 : Int) + 3 * k) (j := 0 + 214 + 3 * k) (by omega) (by omega), q.1, iN_eq (by omega) (by omega) (by omega) (by omega)]
          exact ⟨inA (by omega) (by omega), inA (by omega) (by omega), fun _ => ih (k + 1) (by push_cast; omega) (by omega), fun c2 => absurd c2 nb⟩
      exact step (D 8 3).toNat k (by omega) k9
    | succ f ih =>
      intro k D A' wD r fA d0 d4 k9 hb he
      have vD := wD.1
      have w := vD.w
      refine b_Mod_dies_130 (by omega) ?_
      simp only [zA_1, iN_mul, iN_add]
      rw [clA (z := 5) (j := 0 + 5) (by omega) (by omega), r.1.2.2.2.2, iN_le (by omega) (by omega) (by omega) (by omega)]
      unfold passW at he
      refine ⟨inA (by omega) (by omega), fun c => goon D A' wD r fA d0 (by rw [if_neg (by omega)] at he; exact he), fun c => ?_⟩
      rw [if_pos (by omega)] at he
      have q := r.2.2.2.2 k (by omega)
      have wa := vD.wa k (by omega)
      have wb := vD.wb k (by omega)
      have wm := vD.wm k (by omega)
      have w4 := wD.2.2.2.2.1 k (by omega)
      obtain ⟨y, hy⟩ : ∃ y : Nat, D 10 k = y := ⟨(D 10 k).toNat, (by omega)⟩
      rw [clA (z := (214 : Int) + 3 * k) (j := 0 + 214 + 3 * k) (by omega) (by omega), clA (z := (214 : Int) + 3 * k + 1) (j := 0 + 214 + 3 * k + 1) (by omega) (by omega), q.1, q.2.1, iN_eq (by omega) (by omega) (by omega) (by omega), hy]
      rw [hy] at w4
      refine ⟨inA (by omega) (by omega), inA (by omega) (by omega), fun c2 => ih (k + 1) D A' wD r fA d0 d4 (by omega) (fun j hj hl => ?_) (by rw [if_neg c2] at he; exact he), fun c2 => c_leaves (B := 0) (by omega) hB (by omega) vD r (by omega) (fun A2 r2 f2 => ?_)⟩
      · by_cases e : j = k
        · subst e; exact c2
        · exact hb j hj (by omega)
      · rw [if_pos c2, hy, show ((y : Int)).toNat = y from rfl] at he
        have t0 : leaveC D k 0 = D 0 := leaveC_c (by omega)
        have wl := WC_leave wD (k := k) (by omega)
        have hh : HR (leaveC D k) s heir := hr0.c (by rw [t0, d0])
        rw [toI_int]
        refine c_inherits (s := s) (by omega) hB wl.1 r2 (by rw [t0]; exact w4.2.1) hh w4.2.2.2.1 wm.2 (fun A3 r3 f3 => ?_)
        have wi := WC_inh (b := y) (n := D 11 k) wl hh (by rw [t0]; exact w4.2.1) (by unfold alv; rw [t0]; exact w4.2.2.2.2.2) w4.2.2.2.1 wm.2
        refine ih k _ A3 wi r3 ((fA.tr f2).tr f3) (by rw [inh_0, t0, d0]) (by rw [inhC_c (by omega), leaveC_c (by omega), d4]) k9 (fun j hj hl => ?_) he
        have base : ∀ j : Nat, (j : Int) < leaveC D k 8 3 → j < k ∨ k + f ≤ j → leaveC D k 9 j ≠ s := by
          intro j hj hl
          rw [leaveC_8] at hj
          rw [leaveC_at D k (Or.inl rfl) j hj]
          split
          · exact hb (j + 1) (by omega) (by omega)
          · exact hb j (by omega) (by omega)
        unfold inhC at hj ⊢
        split
        · rename_i c3
          rw [if_pos c3] at hj
          exact base j hj hl
        · rename_i c3
          rw [if_neg c3] at hj
          have l0 : 0 ≤ leaveC D k 8 3 := by rw [leaveC_8]; omega
          by_cases e : (j : Int) < leaveC D k 8 3
          · rw [oweC_9 j e l0]
            exact base j e hl
          · rcases oweC_w (C := leaveC D k) (a := heir) (b := y) (n := D 11 k) with q2 | q2
            · rw [q2] at hj; exact absurd hj e
            · rw [q2.2, joinC_9, if_pos (by rw [q2.1] at hj; omega)]
              exact hh.ne
  have s69 : ∀ (m b : Nat) (D : Ch) (A' : Nat → Int), b + m = n → WC D → RR D A' 0 → FrA 0 A A' → D 0 = C 0 → D 4 = C 4 → passF s heir m b D = passF s heir n 0 (buryD C s) → G l E d m_Mod_dies 69 [(0, (.ref 24, 41)), (1, (.int (iN s), 0)), (2, (.int (iN heir), 0)), (3, (.int (iN b), 0))] [] (zA M Z A') K := by
    intro m
    induction m with
    | zero =>
      intro b D A' hb wD r f d0 d4 he
      have he : D = _ := he
      have w := wD.1.w
      refine b_Mod_dies_69 (by omega) ?_
      simp only [zA_1]
      rw [clA (z := 0) (j := 0 + 0) (by omega) (by omega), r.1.1, d0, hnn]
      exact ⟨inA (by omega) (by omega), fun _ => s130 8 0 D A' wD r f d0 d4 (by omega) (fun j hj hl => by omega) (by rw [← he]), fun c => absurd ((iN_le (by omega) (by omega) (by omega) (by omega)).mpr (by omega)) c⟩
    | succ m ih =>
      intro b D A' hb wD r f d0 d4 he
      have vD := wD.1
      have he : passF s heir m (b + 1) (if slotOfC D s b = -1 then D else inhC (takeOffC D (slotOfC D s b).toNat (D 7 (slotOfC D s b).toNat)) heir b (D 7 (slotOfC D s b).toNat)) = _ := he
      refine b_Mod_dies_69 (by omega) ?_
      simp only [zA_1]
      rw [clA (z := 0) (j := 0 + 0) (by omega) (by omega), r.1.1, d0, hnn]
      refine ⟨inA (by omega) (by omega), fun c => absurd ((iN_le (by omega) (by omega) (by omega) (by omega)).mp c) (by omega), fun _ => c_noteOf (B := 0) (by omega) hB (by omega) vD r (by rw [d0]; omega) (by omega) (by omega) ?_⟩
      rw [toI_int]
      simp only [iN_add]
      rcases noteOf_rng vD s (b := b) (by omega) with e | ⟨k, e, k1, k2, k3⟩
      · rw [e]
        rw [slot_note1 e, if_pos rfl] at he
        exact ⟨fun c => absurd rfl c, fun _ => ih (b + 1) D A' (by omega) wD r f d0 d4 he⟩
      · rw [e, iN_eq (by omega) (by omega) (by omega) (by omega)]
        rw [slot_note e, if_neg (by omega), show (((6 * b + k : Nat) : Int)).toNat = 6 * b + k from rfl] at he
        have i4 : D 6 (6 * b + k) ≠ -1 := (by omega)
        have w2 := wD.2.2.1 (6 * b + k) (by omega) i4
        rw [show (6 * b + k) / 6 = b by omega] at w2
        have de := vD.de (6 * b + k) (by omega)
        have d1 : D 7 (6 * b + k) ≠ 0 := fun q => i4 ((wD.2.1 (6 * b + k) (by omega)).mpr q)
        refine ⟨fun _ => c_debtAt (B := 0) (by omega) hB (by omega) (by omega) (by omega) ?_, fun c => absurd c (by omega)⟩
        rw [(r.2.2.2.1 (6 * b + k) (by omega)).2]
        refine c_stands (B := 0) (by omega) hB (by omega) (by omega) (by omega) (by omega) (by omega) (by omega) (by omega) ?_
        have r2 := RR_stands (i := 6 * b + k) (who := s) (v := 0) vD r (by omega) (by omega) (by omega)
        have e2 : upd2 (upd2 D 6 (6 * b + k) (if (0 : Int) = 0 then -1 else (s : Int))) 7 (6 * b + k) 0 = takeOffC D (6 * b + k) (D 7 (6 * b + k)) := by
          unfold takeOffC
          rw [if_pos rfl, if_pos (by omega), show D 7 (6 * b + k) - D 7 (6 * b + k) = 0 by omega, upd2_comm _ _ _ _ _ (show 6 ≠ 7 by decide)]
        rw [e2] at r2
        have wt := WC_take0 wD (i := 6 * b + k) (by omega)
        have t0 : takeOffC D (6 * b + k) (D 7 (6 * b + k)) 0 = D 0 := takeOffC_c (by decide) (by decide)
        have hh : HR (takeOffC D (6 * b + k) (D 7 (6 * b + k))) s heir := hr0.c (by rw [t0, d0])
        rw [toI_int]
        refine c_inherits (s := s) (by omega) hB wt.1 r2 (by rw [t0]; exact w2.1) hh (by omega) (by omega) (fun A3 r3 f3 => ?_)
        have wi := WC_inh (b := b) (n := D 7 (6 * b + k)) wt hh (by rw [t0]; exact w2.1) (by unfold alv; rw [t0]; exact w2.2.2.2.2.2) (by omega) (by omega)
        exact ih (b + 1) _ A3 (by omega) wi r3 ((f.tr (FrA_stands (by omega))).tr f3) (by rw [inh_0, t0, d0]) (by rw [inhC_c (by omega), takeOffC_c (by decide) (by decide), d4]) he
  have he5 := (hR.2.1 s ta.2).2.2.2.2.2.1
  have hhe := hV.he s s8
  refine b_Mod_dies_0 (by omega) (c_of (B := 0) (w := 5) (by omega) hB (by omega) s8 (by omega) ?_)
  rw [he5, toI_int, iN_eq (by omega) (by omega) (by omega) (by omega)]
  have dead : heirC C s = -1 → G l E d m_Mod_dies 69 [(0, (.ref 24, 41)), (1, (.int (iN s), 0)), (2, (.int (iN (-1)), 0)), (3, (.int (iN 0), 0))] [] (zA M Z A) K := by
    intro e
    have eh : heir = -1 := by rw [← hH, e]
    have q := s69 n 0 C A (by omega) hW hR (FrA.rf 0 A) rfl rfl (by unfold buryD; rw [if_pos e])
    rw [eh] at q
    exact q
  refine ⟨fun c => ⟨fun _ => dead ?_, fun c2 => absurd rfl c2⟩, fun c => c_of (B := 0) (w := 5) (by omega) hB (by omega) s8 (by omega) ?_⟩
  · unfold heirC
    rw [if_neg]
    intro q
    have := livesB_spec q
    omega
  obtain ⟨t, ht⟩ : ∃ t : Nat, C 3 s = t := ⟨(C 3 s).toNat, (by omega)⟩
  rw [he5, ht, toI_int]
  rw [ht] at w9
  refine c_isDead (by omega) hB hV hR w9.1 ?_
  rw [toI_int, b2i_z]
  refine ⟨fun c2 => c_of (B := 0) (w := 5) (by omega) hB (by omega) s8 (by omega) ?_, fun c2 => ⟨fun _ => dead ?_, fun c3 => absurd rfl c3⟩⟩
  · have eh : heirC C s = t := by
      unfold heirC
      rw [ht, if_pos (livesB_iff.mpr ⟨⟨(by omega), w9.1⟩, c2⟩)]
    have pt := hV.pu t (by omega)
    have ps := hV.pu s s8
    rw [he5, ht, toI_int, iN_eq (by omega) (by omega) (by omega) (by omega)]
    refine ⟨fun c3 => absurd c3 (by omega), fun _ => c_singerRow (by omega) (c_of (B := 0) (w := 0) (by omega) hB (by omega) (by omega) (by omega) (c_of (B := 0) (w := 0) (by omega) hB (by omega) s8 (by omega) ?_))⟩
    rw [(hR.2.1 t w9.1).1, (hR.2.1 s ta.2).1, toI_int, toI_int, iN_add]
    refine c_min (by omega) (by omega) (by omega) (by omega) (by omega) ?_
    rw [toI_int, toI_int, clA (j := 0 + 6 + 8 * t + 0) (by omega) (by omega), zA_u, iN_small (by omega) (by omega)]
    have ed : buryD C s = upd2 C 2 t (min 9999 (C 2 t + C 2 s)) := by
      unfold buryD
      rw [eh, if_neg (by omega)]
      rfl
    have wd : WC (upd2 C 2 t (min 9999 (C 2 t + C 2 s))) := WC_2 hW (by omega) (by omega) (fun q => by rw [c2] at q; cases q)
    have q := s69 n 0 (upd2 C 2 t (min 9999 (C 2 t + C 2 s))) _ (by omega) wd (RR_2 (t := t) (v := min 9999 (C 2 t + C 2 s)) hV hR (by omega)) ((FrA.rf 0 A).u _ (by omega) (by omega)) (by rw [upd2_c _ _ (by decide)]) (by rw [upd2_c _ _ (by decide)]) (by rw [ed])
    rw [show heir = t by rw [← hH, eh]] at q
    exact ⟨inA (by omega) (by omega), q⟩
  · unfold heirC
    rw [if_neg]
    intro q
    have := (livesB_alv q).2
    rw [ht] at this
    unfold alv at this
    rw [show ((t : Int)).toNat = t from rfl] at this
    exact c2 this
