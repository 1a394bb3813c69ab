theorem c_copySungQ {l : Launch} {E : EnvT} {d : Nat} {K : AV → Mem → Prop} {M : Mem} {rc : Nat} {a t : Int} (hd : 3 ≤ d) (hF : FC M rc) (hT : FT M) (a1 : -2147483648 ≤ a) (a2 : a < 2147483648) (p1 : -2147483648 ≤ t) (p2 : t < 2147483648) (hn : lS M (M rc) a t ≠ 0 → K (.int (iN (-1)), 0) (stM M (lS M (M rc) a t))) (hy : lS M (M rc) a t = 0 → K (.int (iN (M rc 4 a.toNat)), 0) (stM (setR M (20 + t.toNat) (cpC (M (20 + t.toNat)) 1 (fun k => (cutF (M (20 + t.toNat) 0 1) (lI (sungC (M rc) a.toNat k))).toInt) (M rc 4 a.toNat).toNat)) 0)) : CT l E d m_FN_copySung [(.ref 0, 0), (.int (iN a), 0), (.int (iN t), 0)] M K := by
  refine CT.of pn_FN (Nat.le_of_ble_eq_true rfl) ?_
  have cl := hF.cl
  have hV := hF.2.2
  have hnn := hV.n
  have hrc := hF.2.1
  have lr := lS_rng M (M rc) a t
  refine b_FN_copySung_0 (by omega) (c_lineTrayStatus (by omega) hF hT a1 a2 p1 p2 ?_)
  rw [toI_int, iN_eq0 (by omega) (by omega)]
  refine ⟨fun c => ?_, fun c => c_refuse (by omega) (by omega) (by omega) (hn c)⟩
  have hy := hy c
  have t0 := lS_0 c
  have t1 := livesB_spec t0.1
  obtain ⟨j, rfl⟩ : ∃ j : Nat, t = j := ⟨t.toNat, (by omega)⟩
  obtain ⟨s, rfl⟩ : ∃ s : Nat, a = s := ⟨a.toNat, (by omega)⟩
  rw [show ((j : Int)).toNat = j from rfl, show ((s : Int)).toNat = s from rfl] at hy
  have tb := hT.at (j := j) (by omega)
  have le := hV.le s (by omega)
  obtain ⟨n, hl⟩ : ∃ n : Nat, M rc 4 s = n := ⟨(M rc 4 s).toNat, (by omega)⟩
  rw [hl, show ((n : Int)).toNat = n from rfl] at hy
  rw [hF.eq, iN_clN (by omega), hl]
  refine ⟨cl, iN_in (by omega) (by omega) (by omega), ?_⟩
  have key : ∀ (m k : Nat), k + m = n → G l E d m_FN_copySung 31 [(0, (.ref 0, 0)), (1, (.int (iN s), 0)), (2, (.int (iN (j : Int)), 0)), (4, (.int (iN (n : Int)), 0)), (5, (.int (iN k), 0))] [] (setR M (20 + j) (cpC (M (20 + j)) 1 (fun k => (cutF (M (20 + j) 0 1) (lI (sungC (M rc) s k))).toInt) k)) K := by
    intro m
    induction m with
    | zero =>
      intro k hk
      have : k = n := (by omega)
      subst this
      exact b_FN_copySung_31 (by omega) ⟨fun _ => c_answer (by omega) hy, fun c => absurd ((iN_le (by omega) (by omega) (by omega) (by omega)).mpr (by omega)) c⟩
    | succ m ih =>
      intro k hk
      have e0 : setR M (20 + j) (cpC (M (20 + j)) 1 (fun k => (cutF (M (20 + j) 0 1) (lI (sungC (M rc) s k))).toInt) k) 0 = M 0 := setR_ne _ _ (by omega)
      have ec : setR M (20 + j) (cpC (M (20 + j)) 1 (fun k => (cutF (M (20 + j) 0 1) (lI (sungC (M rc) s k))).toInt) k) rc = M rc := setR_ne _ _ (by omega)
      refine b_FN_copySung_31 (by omega) ⟨fun c => absurd ((iN_le (by omega) (by omega) (by omega) (by omega)).mp c) (by omega), fun _ => ⟨iN_in (by omega) (by omega) (by omega), ?_⟩⟩
      rw [e0, hF.eq, iN_clN (by omega), trR (by omega)]
      refine ⟨cl, c_sungAt (by omega) (by rw [ec]; exact hV) (by omega) (by omega) ?_⟩
      rw [ec]
      have sr := sungC_rng hV (s := s) (k := k) (by omega) (by omega)
      rw [toI_int, iN_toL (by omega) (by omega)]
      refine c_put (by omega) tb.1.1 tb.1.2 (by omega) ?_
      rw [iN_add]
      have e : upd2 (cpC (M (20 + j)) 1 (fun k => (cutF (M (20 + j) 0 1) (lI (sungC (M rc) s k))).toInt) k) 1 k (cutF (M (20 + j) 0 1) (lI (sungC (M rc) s k))).toInt = cpC (M (20 + j)) 1 (fun k => (cutF (M (20 + j) 0 1) (lI (sungC (M rc) s k))).toInt) (k + 1) := by
        funext c' i
        unfold upd2 cpC
        by_cases h1 : c' = 1
        · subst h1
          by_cases h2 : i = k
          · subst h2; simp
          · by_cases h3 : i < k
            · simp [h2, h3, show i < k + 1 by omega]
            · simp [h2, h3, show ¬ i < k + 1 by omega]
        · simp [h1]
      have e2 : cpC (M (20 + j)) 1 (fun k => (cutF (M (20 + j) 0 1) (lI (sungC (M rc) s k))).toInt) k 0 1 = M (20 + j) 0 1 := by simp [cpC]
      rw [e2, e]
      exact ih (k + 1) (by omega)
  have k0 := key n 0 (by omega)
  have e : cpC (M (20 + j)) 1 (fun k => (cutF (M (20 + j) 0 1) (lI (sungC (M rc) s k))).toInt) 0 = M (20 + j) := by
    funext c' i
    simp [cpC]
  rw [e, setR_self] at k0
  exact k0
theorem hS_0 {M : Mem} {C : Ch} {a t : Int} (h : hS M C a t = 0) : lS M C a t = 0 ∧ ∀ k : Nat, k < (C 4 a.toNat).toNat → -12 ≤ M (20 + t.toNat) 1 k ∧ M (20 + t.toNat) 1 k ≤ 2000 := by
  unfold hS at h
  split at h
  · rename_i c
    split at h
    · rename_i c2
      refine ⟨c, fun k hk => ?_⟩
      have := (fndF_none (badC (M (20 + t.toNat))) (C 4 a.toNat).toNat 0).mp c2 k (by omega) (by omega)
      unfold badC at this
      have := of_decide_eq_false this
      omega
    · omega
  · omega
theorem c_heardQ {l : Launch} {E : EnvT} {d : Nat} {K : AV → Mem → Prop} {M : Mem} {rc : Nat} {a t : Int} (hd : 4 ≤ d) (hF : FC M rc) (hT : FT M) (a1 : -2147483648 ≤ a) (a2 : a < 2147483648) (p1 : -2147483648 ≤ t) (p2 : t < 2147483648) (hn : hS M (M rc) a t ≠ 0 → K (.int (iN (-1)), 0) (stM M (hS M (M rc) a t))) (hy : hS M (M rc) a t = 0 → K (.int (iN (sumN (fun k => offC M (M rc) a.toNat t.toNat k + M rc 7 (6 * a.toNat + k)) (M rc 4 a.toNat).toNat)), 0) (stM M 0)) : CT l E d m_FN_heard [(.ref 0, 0), (.int (iN a), 0), (.int (iN t), 0)] M K := by
  refine CT.of pn_FN (Nat.le_of_ble_eq_true rfl) ?_
  have cl := hF.cl
  have hV := hF.2.2
  have hnn := hV.n
  have lr := hS_rng M (M rc) a t
  refine b_FN_heard_0 (by omega) (c_heardStatus (by omega) hF hT a1 a2 p1 p2 ?_)
  rw [toI_int, iN_eq0 (by omega) (by omega)]
  refine ⟨fun c => ?_, fun c => c_refuse (by omega) (by omega) (by omega) (hn c)⟩
  have hy := hy c
  have h0 := hS_0 c
  have t0 := lS_0 h0.1
  have t1 := livesB_spec t0.1
  obtain ⟨j, rfl⟩ : ∃ j : Nat, t = j := ⟨t.toNat, (by omega)⟩
  obtain ⟨s, rfl⟩ : ∃ s : Nat, a = s := ⟨a.toNat, (by omega)⟩
  rw [show ((j : Int)).toNat = j from rfl, show ((s : Int)).toNat = s from rfl] at hy h0
  have le := hV.le s (by omega)
  obtain ⟨n, hl⟩ : ∃ n : Nat, M rc 4 s = n := ⟨(M rc 4 s).toNat, (by omega)⟩
  rw [hl, show ((n : Int)).toNat = n from rfl] at hy h0
  have key : ∀ k, k ≤ n → G l E d m_FN_heard 23 [(0, (.ref 0, 0)), (1, (.int (iN s), 0)), (2, (.int (iN (j : Int)), 0)), (4, (.int (iN (sumN (fun k => offC M (M rc) s j k + M rc 7 (6 * s + k)) k)), 0)), (5, (.int (iN k), 0))] [] M K := by
    refine dn n ?_ (fun k hk ih => ?_)
    · refine b_FN_heard_23 (by omega) ?_
      rw [hF.eq, iN_clN (by omega), hl]
      exact ⟨cl, iN_in (by omega) (by omega) (by omega), fun _ => c_answer (by omega) hy, fun c => absurd ((iN_le (by omega) (by omega) (by omega) (by omega)).mpr (by omega)) c⟩
    · have b := h0.2 k hk
      refine b_FN_heard_23 (by omega) ?_
      rw [hF.eq, iN_clN (by omega), hl]
      refine ⟨cl, iN_in (by omega) (by omega) (by omega), fun c => absurd ((iN_le (by omega) (by omega) (by omega) (by omega)).mp c) (by omega), fun _ => ⟨cl, c_slot (by omega) ?_⟩⟩
      rw [show (s : Int) * 6 + k = ((6 * s + k : Nat) : Int) by push_cast; omega, toI_int]
      refine ⟨iN_in (by omega) (by omega) (by omega), c_offAt (by omega) hF (by omega) (by omega) (by omega) b.1 b.2 ?_⟩
      rw [iN_clN (by omega), toI_int, iN_add, iN_add, iN_add]
      exact ih
  exact key 0 (by omega)
def trF (f : Nat → Int) : Nat → Nat → Bool
  | 0, _ => true
  | m + 1, k => if f k = f 0 then trF f m (k + 1) else false
theorem c_transposedQ {l : Launch} {E : EnvT} {d : Nat} {K : AV → Mem → Prop} {M : Mem} {rc : Nat} {a t : Int} (hd : 4 ≤ d) (hF : FC M rc) (hT : FT M) (a1 : -2147483648 ≤ a) (a2 : a < 2147483648) (p1 : -2147483648 ≤ t) (p2 : t < 2147483648) (hL : ∀ s : Nat, (s : Int) < M rc 0 8 → 1 ≤ M rc 4 s) (hn : hS M (M rc) a t ≠ 0 → K (.int (iN (-1)), 0) (stM M (hS M (M rc) a t))) (h6 : hS M (M rc) a t = 0 → trF (offC M (M rc) a.toNat t.toNat) ((M rc 4 a.toNat).toNat - 1) 1 = false → K (.int (iN (-1)), 0) (stM M 6)) (hy : hS M (M rc) a t = 0 → trF (offC M (M rc) a.toNat t.toNat) ((M rc 4 a.toNat).toNat - 1) 1 = true → K (.int (iN (offC M (M rc) a.toNat t.toNat 0)), 0) (stM M 0)) : CT l E d m_FN_transposed [(.ref 0, 0), (.int (iN a), 0), (.int (iN t), 0)] M K := by
  refine CT.of pn_FN (Nat.le_of_ble_eq_true rfl) ?_
  have cl := hF.cl
  have hV := hF.2.2
  have hnn := hV.n
  have lr := hS_rng M (M rc) a t
  refine b_FN_transposed_0 (by omega) (c_heardStatus (by omega) hF hT a1 a2 p1 p2 ?_)
  rw [toI_int, iN_eq0 (by omega) (by omega)]
  refine ⟨fun c => ?_, fun c => c_refuse (by omega) (by omega) (by omega) (hn c)⟩
  have hy := hy c
  have h6 := h6 c
  have h0 := hS_0 c
  have t0 := lS_0 h0.1
  have t1 := livesB_spec t0.1
  obtain ⟨j, rfl⟩ : ∃ j : Nat, t = j := ⟨t.toNat, (by omega)⟩
  obtain ⟨s, rfl⟩ : ∃ s : Nat, a = s := ⟨a.toNat, (by omega)⟩
  rw [show ((j : Int)).toNat = j from rfl, show ((s : Int)).toNat = s from rfl] at hy h0 h6
  have le := hV.le s (by omega)
  have l1 := hL s (by omega)
  obtain ⟨n, hl⟩ : ∃ n : Nat, M rc 4 s = n := ⟨(M rc 4 s).toNat, (by omega)⟩
  rw [hl, show ((n : Int)).toNat = n from rfl] at hy h0 h6
  have orng : ∀ k, k < n → -4000 ≤ offC M (M rc) s j k ∧ offC M (M rc) s j k ≤ 4000 := by
    intro k hk
    have b := h0.2 k hk
    have sr := sungC_rng hV (s := s) (k := k) (by omega) (by omega)
    unfold offC
    omega
  have b0 := h0.2 0 (by omega)
  have o0 := orng 0 (by omega)
  refine c_offAt (k := 0) (by omega) hF (by omega) (by omega) (by omega) b0.1 b0.2 ?_
  rw [toI_int]
  have key : ∀ (m k : Nat), k + m = n → trF (offC M (M rc) s j) (n - 1) 1 = trF (offC M (M rc) s j) m k → G l E d m_FN_transposed 29 [(0, (.ref 0, 0)), (1, (.int (iN s), 0)), (2, (.int (iN (j : Int)), 0)), (4, (.int (iN (offC M (M rc) s j 0)), 0)), (5, (.int (iN k), 0))] [] M K := by
    intro m
    induction m with
    | zero =>
      intro k hk he
      refine b_FN_transposed_29 (by omega) ?_
      rw [hF.eq, iN_clN (by omega), hl]
      exact ⟨cl, iN_in (by omega) (by omega) (by omega), fun _ => c_answer (by omega) (hy he), fun c => absurd ((iN_le (by omega) (by omega) (by omega) (by omega)).mpr (by omega)) c⟩
    | succ m ih =>
      intro k hk he
      have b := h0.2 k (by omega)
      have ok := orng k (by omega)
      have he : _ = (if offC M (M rc) s j k = offC M (M rc) s j 0 then trF (offC M (M rc) s j) m (k + 1) else false) := he
      refine b_FN_transposed_29 (by omega) ?_
      rw [hF.eq, iN_clN (by omega), hl]
      refine ⟨cl, iN_in (by omega) (by omega) (by omega), fun c => absurd ((iN_le (by omega) (by omega) (by omega) (by omega)).mp c) (by omega), fun _ => c_offAt (by omega) hF (by omega) (by omega) (by omega) b.1 b.2 ?_⟩
      rw [toI_int, iN_eq (by omega) (by omega) (by omega) (by omega), iN_add]
      refine ⟨fun c => ih (k + 1) (by omega) ?_, fun c => c_refuse (by omega) (by omega) (by omega) (h6 ?_)⟩
      · rw [if_pos c] at he; exact he
      · rw [if_neg c] at he; exact he
  exact key (n - 1) 1 (by omega) rfl
/-- the one place that is off; -1 without one, -2 with two -/
def fgF (f : Nat → Int) : Nat → Nat → Int → Int
  | 0, _, b => b
  | m + 1, k, b => if f k = 0 then fgF f m (k + 1) b else if b = -1 then fgF f m (k + 1) k else -2
theorem c_forgedQ {l : Launch} {E : EnvT} {d : Nat} {K : AV → Mem → Prop} {M : Mem} {rc : Nat} {a t : Int} (hd : 4 ≤ d) (hF : FC M rc) (hT : FT M) (a1 : -2147483648 ≤ a) (a2 : a < 2147483648) (p1 : -2147483648 ≤ t) (p2 : t < 2147483648) (hn : hS M (M rc) a t ≠ 0 → K (.int (iN (-1)), 0) (stM M (hS M (M rc) a t))) (h6 : hS M (M rc) a t = 0 → fgF (offC M (M rc) a.toNat t.toNat) (M rc 4 a.toNat).toNat 0 (-1) < 0 → K (.int (iN (-1)), 0) (stM M 6)) (hy : hS M (M rc) a t = 0 → 0 ≤ fgF (offC M (M rc) a.toNat t.toNat) (M rc 4 a.toNat).toNat 0 (-1) → K (.int (iN (fgF (offC M (M rc) a.toNat t.toNat) (M rc 4 a.toNat).toNat 0 (-1))), 0) (stM M 0)) : CT l E d m_FN_forged [(.ref 0, 0), (.int (iN a), 0), (.int (iN t), 0)] M K := by
  refine CT.of pn_FN (Nat.le_of_ble_eq_true rfl) ?_
  have cl := hF.cl
  have hV := hF.2.2
  have hnn := hV.n
  have lr := hS_rng M (M rc) a t
  refine b_FN_forged_0 (by omega) (c_heardStatus (by omega) hF hT a1 a2 p1 p2 ?_)
  rw [toI_int, iN_eq0 (by omega) (by omega)]
  refine ⟨fun c => ?_, fun c => c_refuse (by omega) (by omega) (by omega) (hn c)⟩
  have hy := hy c
  have h6 := h6 c
  have h0 := hS_0 c
  have t0 := lS_0 h0.1
  have t1 := livesB_spec t0.1
  obtain ⟨j, rfl⟩ : ∃ j : Nat, t = j := ⟨t.toNat, (by omega)⟩
  obtain ⟨s, rfl⟩ : ∃ s : Nat, a = s := ⟨a.toNat, (by omega)⟩
  rw [show ((j : Int)).toNat = j from rfl, show ((s : Int)).toNat = s from rfl] at hy h0 h6
  have le := hV.le s (by omega)
  obtain ⟨n, hl⟩ : ∃ n : Nat, M rc 4 s = n := ⟨(M rc 4 s).toNat, (by omega)⟩
  rw [hl, show ((n : Int)).toNat = n from rfl] at hy h0 h6
  have key : ∀ (m k : Nat) (b : Int), k + m = n → -1 ≤ b → b < k → fgF (offC M (M rc) s j) n 0 (-1) = fgF (offC M (M rc) s j) m k b → G l E d m_FN_forged 23 [(0, (.ref 0, 0)), (1, (.int (iN s), 0)), (2, (.int (iN (j : Int)), 0)), (4, (.int (iN b), 0)), (5, (.int (iN k), 0))] [] M K := by
    intro m
    induction m with
    | zero =>
      intro k b hk b1 b2 he
      have he : _ = b := he
      refine b_FN_forged_23 (by omega) ?_
      rw [hF.eq, iN_clN (by omega), hl]
      refine ⟨cl, iN_in (by omega) (by omega) (by omega), fun _ => c_answerOr (by omega) (by omega) (by omega) (by omega) (by omega) ?_, fun c => absurd ((iN_le (by omega) (by omega) (by omega) (by omega)).mpr (by omega)) c⟩
      rw [he] at h6 hy
      unfold ansOr
      by_cases c : b = -1
      · rw [if_pos c]; exact h6 (by omega)
      · rw [if_neg c]; exact hy (by omega)
    | succ m ih =>
      intro k b hk b1 b2 he
      have bb := h0.2 k (by omega)
      have sr := sungC_rng hV (s := s) (k := k) (by omega) (by omega)
      have he : _ = (if offC M (M rc) s j k = 0 then fgF (offC M (M rc) s j) m (k + 1) b else if b = -1 then fgF (offC M (M rc) s j) m (k + 1) k else -2) := he
      refine b_FN_forged_23 (by omega) ?_
      rw [hF.eq, iN_clN (by omega), hl]
      refine ⟨cl, iN_in (by omega) (by omega) (by omega), fun c => absurd ((iN_le (by omega) (by omega) (by omega) (by omega)).mp c) (by omega), fun _ => c_offAt (by omega) hF (by omega) (by omega) (by omega) bb.1 bb.2 ?_⟩
      have eo : offC M (M rc) s j k = M (20 + j) 1 k - sungC (M rc) s k := rfl
      rw [toI_int, iN_eq0 (by omega) (by omega), iN_eq (by omega) (by omega) (by omega) (by omega), iN_add]
      refine ⟨fun c => ih (k + 1) b (by omega) b1 (by omega) ?_, fun c => ⟨fun c2 => ih (k + 1) k (by omega) (by omega) (by omega) ?_, fun c2 => c_refuse (by omega) (by omega) (by omega) (h6 ?_)⟩⟩
      · rw [if_pos c] at he; exact he
      · rw [if_neg c, if_pos c2] at he; exact he
      · rw [if_neg c, if_neg c2] at he; omega
  exact key n 0 (-1) (by omega) (by omega) (by omega) rfl
theorem c_shortsQ {l : Launch} {E : EnvT} {d : Nat} {K : AV → Mem → Prop} {M : Mem} {rc : Nat} (hd : 5 ≤ d) (hF : FC M rc) (h : K (.int (iN (msk (fun s => decide (0 < lackC (M rc) s)) (M rc 0 8).toNat : Nat)), 0) (stM M 0)) : CT l E d m_FN_shorts [(.ref 0, 0)] M K := by
  refine CT.of pn_FN (Nat.le_of_ble_eq_true rfl) ?_
  have cl := hF.cl
  have hV := hF.2.2
  have hnn := hV.n
  obtain ⟨n, hn⟩ : ∃ n : Nat, M rc 0 8 = n := ⟨(M rc 0 8).toNat, (by omega)⟩
  rw [hn, show ((n : Int)).toNat = n from rfl] at h
  have key : ∀ k, k ≤ n → G l E d m_FN_shorts 4 [(0, (.ref 0, 0)), (1, (.int (iN (msk (fun s => decide (0 < lackC (M rc) s)) k : Nat)), 0)), (2, (.int (iN k), 0))] [] M K := by
    refine dn n ?_ (fun k hk ih => ?_)
    · refine b_FN_shorts_4 (by omega) ?_
      rw [hF.eq, hn]
      exact ⟨cl, fun _ => c_answer (by omega) h, fun c => absurd ((iN_le (by omega) (by omega) (by omega) (by omega)).mpr (by omega)) c⟩
    · refine b_FN_shorts_4 (by omega) ?_
      rw [hF.eq, hn]
      refine ⟨cl, fun c => absurd ((iN_le (by omega) (by omega) (by omega) (by omega)).mp c) (by omega), fun _ => ⟨cl, c_lacks (by omega) hV (by omega) ?_⟩⟩
      have i1 := isOwC_rng hV (s := k) (by omega)
      have i2 := owesC_rng hV (k : Int)
      have i3 := hV.pu k (by omega)
      have lr : 0 ≤ lackC (M rc) k ∧ lackC (M rc) k ≤ 200000 := by unfold lackC balC; omega
      have ml := msk_lt (fun s => decide (0 < lackC (M rc) s)) k (by omega)
      rw [toI_int, iN_le0 (by omega) (by omega), iN_add, or_bit (by omega) (by omega) (by omega), setB_nat]
      refine ⟨fun c => ?_, fun c => ?_⟩
      · simpa [msk, show ¬ 0 < lackC (M rc) k by omega] using ih
      · simpa [msk, show 0 < lackC (M rc) k by omega] using ih
  exact b_FN_shorts_0 (by omega) (key 0 (by omega))
theorem c_lackingQ {l : Launch} {E : EnvT} {d : Nat} {K : AV → Mem → Prop} {M : Mem} {rc : Nat} (hd : 5 ≤ d) (hF : FC M rc) (h : K (.int (iN (sumN (lackC (M rc)) (M rc 0 8).toNat)), 0) (stM M 0)) : CT l E d m_FN_lacking [(.ref 0, 0)] M K := by
  refine CT.of pn_FN (Nat.le_of_ble_eq_true rfl) ?_
  have cl := hF.cl
  have hV := hF.2.2
  have hnn := hV.n
  obtain ⟨n, hn⟩ : ∃ n : Nat, M rc 0 8 = n := ⟨(M rc 0 8).toNat, (by omega)⟩
  rw [hn, show ((n : Int)).toNat = n from rfl] at h
  have key : ∀ k, k ≤ n → G l E d m_FN_lacking 4 [(0, (.ref 0, 0)), (1, (.int (iN (sumN (lackC (M rc)) k)), 0)), (2, (.int (iN k), 0))] [] M K := by
    refine dn n ?_ (fun k hk ih => ?_)
    · refine b_FN_lacking_4 (by omega) ?_
      rw [hF.eq, hn]
      exact ⟨cl, fun _ => c_answer (by omega) h, fun c => absurd ((iN_le (by omega) (by omega) (by omega) (by omega)).mpr (by omega)) c⟩
    · refine b_FN_lacking_4 (by omega) ?_
      rw [hF.eq, hn]
      refine ⟨cl, fun c => absurd ((iN_le (by omega) (by omega) (by omega) (by omega)).mp c) (by omega), fun _ => ⟨cl, c_lacks (by omega) hV (by omega) ?_⟩⟩
      rw [toI_int, iN_add, iN_add]
      exact ih
  exact b_FN_lacking_0 (by omega) (key 0 (by omega))
