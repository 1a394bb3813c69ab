theorem r_copySung {l : Launch} {E : EnvT} {d : Nat} {K : AV → Mem → Prop} {M : Mem} {C Z : Ch} {T : Mem} {A : Nat → Int} {a t : Int} (hd : 5 ≤ d) (hB : Z 0 21 = 0) (hV : VB C) (hR : RR C A 0) (hT : FT T) (hr : TR T Z) (a1 : -2147483648 ≤ a) (a2 : a < 2147483648) (p1 : -2147483648 ≤ t) (p2 : t < 2147483648) (hn : lS T C a t ≠ 0 → K (.int (iN (-1)), 0) (zA M (sZ Z (lS T C a t)) A)) (hy : lS T C a t = 0 → ∀ Z', TR (setR T (20 + t.toNat) (cpC (T (20 + t.toNat)) 1 (fun k => (cutF (T (20 + t.toNat) 0 1) (lI (sungC C a.toNat k))).toInt) (C 4 a.toNat).toNat)) Z' → ZF Z Z' → K (.int (iN (C 4 a.toNat)), 0) (zA M (sZ Z' 0) A)) : CT l E d m_Mod_copySung [(.ref 24, 41), (.int (iN a), 0), (.int (iN t), 0)] (zA M Z A) K := by
  refine CT.of pn_Mod (Nat.le_of_ble_eq_true rfl) ?_
  have hnn := hV.n
  refine b_Mod_copySung_0 (by omega) (r_isLiving (by omega) hB hV hR a1 a2 ?_)
  unfold lS at hn hy
  rw [toI_int, b2i_z]
  refine ⟨fun c => r_refuse (by omega) (by omega) (by omega) ?_, fun c => r_isTray (by omega) p1 p2 ?_⟩
  · rw [if_neg (fun q => by rw [c] at q; exact absurd q.1 (by decide))] at hn; exact hn (by omega)
  rw [Bool.not_eq_false] at c
  have t1 := livesB_spec c
  rw [toI_int, b2i_z]
  refine ⟨fun c2 => ?_, fun c2 => r_refuse (by omega) (by omega) (by omega) ?_⟩
  · rw [Bool.not_eq_false] at c2
    have t2 : 0 ≤ t ∧ t ≤ 3 := of_decide_eq_true c2
    rw [if_pos ⟨c, t2⟩] at hn hy
    obtain ⟨j, rfl⟩ : ∃ j : Nat, t = j := ⟨t.toNat, (by omega)⟩
    obtain ⟨s, rfl⟩ : ∃ s : Nat, a = s := ⟨a.toNat, (by omega)⟩
    rw [show ((j : Int)).toNat = j from rfl, show ((s : Int)).toNat = s from rfl] at hn hy
    have tb := hT.at (j := j) (by omega)
    have tb2 := tb.2.1
    have rj := hr j (by omega)
    have le := hV.le s (by omega)
    have rs := hR.2.1 s t1.2
    simp only [zA_c M Z A (show 4 ≠ 1 by decide)]
    rw [cl4 (z := (j : Int)) (j := j) rfl (by omega), rj.1, iN_eq (by omega) (by omega) (by omega) (by omega)]
    refine ⟨in4 (by omega) (by omega), fun c3 => ⟨in4 (by omega) (by omega), c_of (B := 0) (w := 1) (by omega) hB (by omega) (by omega) (by omega) ?_⟩, fun c3 => r_refuse (by omega) (by omega) (by omega) ?_⟩
    · rw [rs.2.1, toI_int, iN_le (by omega) (by omega) (by omega) (by omega)]
      rw [if_neg c3] at hn hy
      refine ⟨fun c4 => ?_, fun c4 => r_refuse (by omega) (by omega) (by omega) ?_⟩
      · rw [if_pos c4] at hy
        have hy := hy rfl
        obtain ⟨n, hl⟩ : ∃ n : Nat, C 4 s = n := ⟨(C 4 s).toNat, (by omega)⟩
        rw [hl, show ((n : Int)).toNat = n from rfl] at hy
        have key : ∀ (m k : Nat) (Y : Ch), k + m = n → (∀ c, c ≠ 5 → Y c = Z c) → TR (setR T (20 + j) (cpC (T (20 + j)) 1 (fun k => (cutF (T (20 + j) 0 1) (lI (sungC C s k))).toInt) k)) Y → G l E d m_Mod_copySung 60 [(0, (.ref 24, 41)), (1, (.int (iN s), 0)), (2, (.int (iN (j : Int)), 0)), (3, (.int (iN k), 0))] [] (zA M Y A) K := by
          intro m
          induction m with
          | zero =>
            intro k Y e1 e2 e3
            have hB' : Y 0 21 = 0 := by rw [e2 0 (by decide)]; exact hB
            have : k = n := (by omega)
            subst this
            refine b_Mod_copySung_60 (by omega) (c_of (B := 0) (w := 1) (by omega) hB' (by omega) (by omega) (by omega) ?_)
            rw [rs.2.1, hl, toI_int]
            refine ⟨fun _ => c_of (B := 0) (w := 1) (by omega) hB' (by omega) (by omega) (by omega) (r_gives (by omega) ?_), fun c => absurd ((iN_le (by omega) (by omega) (by omega) (by omega)).mpr (by omega)) c⟩
            rw [rs.2.1, hl, toI_int]
            exact hy Y e3 (fun c h3 h4 h5 => e2 c h5)
          | succ m ih =>
            intro k Y e1 e2 e3
            have hB' : Y 0 21 = 0 := by rw [e2 0 (by decide)]; exact hB
            refine b_Mod_copySung_60 (by omega) (c_of (B := 0) (w := 1) (by omega) hB' (by omega) (by omega) (by omega) ?_)
            rw [rs.2.1, hl, toI_int]
            have sr := sungC_rng hV (s := s) (k := k) (by omega) (by omega)
            refine ⟨fun c => absurd ((iN_le (by omega) (by omega) (by omega) (by omega)).mp c) (by omega), fun _ => r_sungAt (by omega) hB' hV hR (by omega) (by omega) ⟨in4 (by omega) (by omega), ?_⟩⟩
            rw [toI_int, iN_toL (by omega) (by omega), zA_c M Y A (show 3 ≠ 1 by decide), cl4 (z := (j : Int)) (j := j) rfl (by omega), e2 3 (by decide), rj.2.1 c3]
            refine r_cut (by omega) tb.1.1 tb.1.2 ?_
            simp only [iN_mul, iN_add]
            refine ⟨in240 (by omega) (by omega), ?_⟩
            rw [cl4 (z := 60 * (j : Int) + (k : Int)) (j := 60 * j + k) (by omega) (by omega), toL_long, zA_uo M Y A (show 5 ≠ 1 by decide)]
            refine ih (k + 1) _ (by omega) (fun c h5 => ?_) (fun i hi => ?_)
            · rw [upd2_c _ _ h5]; exact e2 c h5
            · have ei := e3 i hi
              have ti := (hT.at hi).2.1
              rw [upd2_c _ _ (show 4 ≠ 5 by decide), upd2_c _ _ (show 3 ≠ 5 by decide)]
              by_cases e : i = j
              · subst e
                rw [setR_same] at ei ⊢
                refine ⟨ei.1, ei.2.1, fun x hx => ?_⟩
                have hx : (x : Int) < T (20 + i) 0 2 := hx
                rw [upd2_at]
                by_cases cx : x = k
                · subst cx
                  rw [if_pos rfl]
                  unfold cpC
                  rw [if_pos ⟨rfl, by omega⟩]
                · rw [if_neg (by omega), ei.2.2 x hx]
                  unfold cpC
                  by_cases cy : x < k
                  · rw [if_pos ⟨rfl, cy⟩, if_pos ⟨rfl, by omega⟩]
                  · rw [if_neg (by omega), if_neg (by omega)]
              · rw [setR_ne _ _ (show 20 + i ≠ 20 + j by omega)] at ei ⊢
                refine ⟨ei.1, ei.2.1, fun x hx => ?_⟩
                rw [upd2_at, if_neg (by omega)]
                exact ei.2.2 x hx
        refine key n 0 Z (by omega) (fun _ _ => rfl) ?_
        have e : cpC (T (20 + j)) 1 (fun k => (cutF (T (20 + j) 0 1) (lI (sungC C s k))).toInt) 0 = T (20 + j) := by
          funext c' i
          simp [cpC]
        rw [e, setR_self]
        exact hr
      · rw [if_neg c4] at hn; exact hn (by omega)
    · rw [if_pos c3] at hn; exact hn (by omega)
  · have := of_decide_eq_false c2
    rw [if_neg (fun q => this q.2)] at hn; exact hn (by omega)
theorem r_heard {l : Launch} {E : EnvT} {d : Nat} {K : AV → Mem → Prop} {M : Mem} {C Z : Ch} {T : Mem} {A : Nat → Int} {a t : Int} (hd : 6 ≤ d) (hB : Z 0 21 = 0) (hV : VB C) (hR : RR C A 0) (hT : FT T) (hr : TR T Z) (a1 : -2147483648 ≤ a) (a2 : a < 2147483648) (p1 : -2147483648 ≤ t) (p2 : t < 2147483648) (hn : hS T C a t ≠ 0 → K (.int (iN (-1)), 0) (zA M (sZ Z (hS T C a t)) A)) (hy : hS T C a t = 0 → K (.int (iN (sumN (fun k => offC T C a.toNat t.toNat k + C 7 (6 * a.toNat + k)) (C 4 a.toNat).toNat)), 0) (zA M (sZ Z 0) A)) : CT l E d m_Mod_heard [(.ref 24, 41), (.int (iN a), 0), (.int (iN t), 0)] (zA M Z A) K := by
  refine CT.of pn_Mod (Nat.le_of_ble_eq_true rfl) ?_
  have hnn := hV.n
  have lr := hS_rng T C a t
  refine b_Mod_heard_0 (by omega) (r_wrongTray (by omega) hB hV hR hT hr a1 a2 p1 p2 ?_)
  rw [toI_int, iN_le0 (by omega) (by omega)]
  refine ⟨fun c => ?_, fun c => r_refuse (by omega) (by omega) (by omega) (hn (by omega))⟩
  have c0 : hS T C a t = 0 := (by omega)
  have hy := hy c0
  have h0 := hS_0 c0
  have t0 := lS_0 h0.1
  have t1 := livesB_spec t0.1
  obtain ⟨j, rfl⟩ : ∃ j : Nat, t = j := ⟨t.toNat, (by omega)⟩
  obtain ⟨s, rfl⟩ : ∃ s : Nat, a = s := ⟨a.toNat, (by omega)⟩
  rw [show ((j : Int)).toNat = j from rfl, show ((s : Int)).toNat = s from rfl] at hy h0 t0
  have le := hV.le s (by omega)
  have rs := hR.2.1 s t1.2
  have rj := hr j (by omega)
  obtain ⟨n, hl⟩ : ∃ n : Nat, C 4 s = n := ⟨(C 4 s).toNat, (by omega)⟩
  rw [hl, show ((n : Int)).toNat = n from rfl] at hy h0
  rw [hl] at t0
  have key : ∀ k, k ≤ n → G l E d m_Mod_heard 23 [(0, (.ref 24, 41)), (1, (.int (iN s), 0)), (2, (.int (iN (j : Int)), 0)), (4, (.int (iN (sumN (fun k => offC T C s j k + C 7 (6 * s + k)) k)), 0)), (5, (.int (iN k), 0))] [] (zA M Z A) K := by
    refine dn n ?_ (fun k hk ih => ?_)
    · refine b_Mod_heard_23 (by omega) (c_of (B := 0) (w := 1) (by omega) hB (by omega) (by omega) (by omega) ?_)
      rw [rs.2.1, hl, toI_int]
      exact ⟨fun _ => r_gives (by omega) hy, fun c => absurd ((iN_le (by omega) (by omega) (by omega) (by omega)).mpr (by omega)) c⟩
    · have b := h0.2 k hk
      refine b_Mod_heard_23 (by omega) (c_of (B := 0) (w := 1) (by omega) hB (by omega) (by omega) (by omega) ?_)
      rw [rs.2.1, hl, toI_int]
      refine ⟨fun c => absurd ((iN_le (by omega) (by omega) (by omega) (by omega)).mp c) (by omega), fun _ => ?_⟩
      simp only [iN_mul, iN_add]
      refine ⟨in240 (by omega) (by omega), r_sungAt (by omega) hB hV hR (by omega) (by omega) (c_debtAt (B := 0) (by omega) hB (by omega) (by omega) (by omega) ?_)⟩
      rw [cl4 (z := 60 * (j : Int) + (k : Int)) (j := 60 * j + k) (by omega) (by omega), zA_c M Z A (show 5 ≠ 1 by decide), rj.2.2 k (by omega), l2i (by omega) (by omega), toI_int, toI_int, (hR.2.2.2.1 (6 * s + k) (by omega)).2, iN_sub, iN_add, iN_add]
      exact ih
  exact key 0 (by omega)
theorem r_transposed {l : Launch} {E : EnvT} {d : Nat} {K : AV → Mem → Prop} {M : Mem} {C Z : Ch} {T : Mem} {A : Nat → Int} {a t : Int} (hd : 6 ≤ d) (hB : Z 0 21 = 0) (hV : VB C) (hR : RR C A 0) (hT : FT T) (hr : TR T Z) (a1 : -2147483648 ≤ a) (a2 : a < 2147483648) (p1 : -2147483648 ≤ t) (p2 : t < 2147483648) (hL : ∀ s : Nat, (s : Int) < C 0 8 → 1 ≤ C 4 s) (hn : hS T C a t ≠ 0 → K (.int (iN (-1)), 0) (zA M (sZ Z (hS T C a t)) A)) (h6 : hS T C a t = 0 → trF (offC T C a.toNat t.toNat) ((C 4 a.toNat).toNat - 1) 1 = false → K (.int (iN (-1)), 0) (zA M (sZ Z 6) A)) (hy : hS T C a t = 0 → trF (offC T C a.toNat t.toNat) ((C 4 a.toNat).toNat - 1) 1 = true → K (.int (iN (offC T C a.toNat t.toNat 0)), 0) (zA M (sZ Z 0) A)) : CT l E d m_Mod_transposed [(.ref 24, 41), (.int (iN a), 0), (.int (iN t), 0)] (zA M Z A) K := by
  refine CT.of pn_Mod (Nat.le_of_ble_eq_true rfl) ?_
  have hnn := hV.n
  have lr := hS_rng T C a t
  refine b_Mod_transposed_0 (by omega) (r_wrongTray (by omega) hB hV hR hT hr a1 a2 p1 p2 ?_)
  rw [toI_int, iN_le0 (by omega) (by omega)]
  refine ⟨fun c => ?_, fun c => r_refuse (by omega) (by omega) (by omega) (hn (by omega))⟩
  have c0 : hS T C a t = 0 := (by omega)
  have hy := hy c0
  have h6 := h6 c0
  have h0 := hS_0 c0
  have t0 := lS_0 h0.1
  have t1 := livesB_spec t0.1
  obtain ⟨j, rfl⟩ : ∃ j : Nat, t = j := ⟨t.toNat, (by omega)⟩
  obtain ⟨s, rfl⟩ : ∃ s : Nat, a = s := ⟨a.toNat, (by omega)⟩
  rw [show ((j : Int)).toNat = j from rfl, show ((s : Int)).toNat = s from rfl] at hy h0 h6 t0
  have le := hV.le s (by omega)
  have l1 := hL s (by omega)
  have rs := hR.2.1 s t1.2
  have rj := hr j (by omega)
  obtain ⟨n, hl⟩ : ∃ n : Nat, C 4 s = n := ⟨(C 4 s).toNat, (by omega)⟩
  rw [hl, show ((n : Int)).toNat = n from rfl] at hy h0 h6
  rw [hl] at t0
  have orng : ∀ k, k < n → -4000 ≤ offC T C s j k ∧ offC T C s j k ≤ 4000 := by
    intro k hk
    have b := h0.2 k hk
    have sr := sungC_rng hV (s := s) (k := k) (by omega) (by omega)
    unfold offC
    omega
  have b0 := h0.2 0 (by omega)
  have o0 := orng 0 (by omega)
  have key : ∀ (m k : Nat), k + m = n → trF (offC T C s j) (n - 1) 1 = trF (offC T C s j) m k → G l E d m_Mod_transposed 20 [(0, (.ref 24, 41)), (1, (.int (iN s), 0)), (2, (.int (iN (j : Int)), 0)), (4, (.int (iN k), 0))] [] (zA M Z A) K := by
    intro m
    induction m with
    | zero =>
      intro k hk he
      refine b_Mod_transposed_20 (by omega) (c_of (B := 0) (w := 1) (by omega) hB (by omega) (by omega) (by omega) ?_)
      rw [rs.2.1, hl, toI_int]
      exact ⟨fun _ => r_offBy (k := 0) (by omega) hB hV hR hr (by omega) (by omega) (by omega) (by omega) b0.1 b0.2 (r_gives (by omega) (hy he)), fun c => absurd ((iN_le (by omega) (by omega) (by omega) (by omega)).mpr (by omega)) c⟩
    | succ m ih =>
      intro k hk he
      have b := h0.2 k (by omega)
      have ok := orng k (by omega)
      have he : _ = (if offC T C s j k = offC T C s j 0 then trF (offC T C s j) m (k + 1) else false) := he
      refine b_Mod_transposed_20 (by omega) (c_of (B := 0) (w := 1) (by omega) hB (by omega) (by omega) (by omega) ?_)
      rw [rs.2.1, hl, toI_int]
      refine ⟨fun c => absurd ((iN_le (by omega) (by omega) (by omega) (by omega)).mp c) (by omega), fun _ => r_offBy (k := k) (by omega) hB hV hR hr (by omega) (by omega) (by omega) (by omega) b.1 b.2 (r_offBy (k := 0) (by omega) hB hV hR hr (by omega) (by omega) (by omega) (by omega) b0.1 b0.2 ?_)⟩
      rw [toI_int, toI_int, iN_eq (by omega) (by omega) (by omega) (by omega), iN_add]
      refine ⟨fun c => ih (k + 1) (by omega) ?_, fun c => r_refuse (by omega) (by omega) (by omega) (h6 ?_)⟩
      · rw [if_pos c] at he; exact he
      · rw [if_neg c] at he; exact he
  exact key (n - 1) 1 (by omega) rfl
theorem r_forged {l : Launch} {E : EnvT} {d : Nat} {K : AV → Mem → Prop} {M : Mem} {C Z : Ch} {T : Mem} {A : Nat → Int} {a t : Int} (hd : 6 ≤ d) (hB : Z 0 21 = 0) (hV : VB C) (hR : RR C A 0) (hT : FT T) (hr : TR T Z) (a1 : -2147483648 ≤ a) (a2 : a < 2147483648) (p1 : -2147483648 ≤ t) (p2 : t < 2147483648) (hn : hS T C a t ≠ 0 → K (.int (iN (-1)), 0) (zA M (sZ Z (hS T C a t)) A)) (h6 : hS T C a t = 0 → fgF (offC T C a.toNat t.toNat) (C 4 a.toNat).toNat 0 (-1) < 0 → K (.int (iN (-1)), 0) (zA M (sZ Z 6) A)) (hy : hS T C a t = 0 → 0 ≤ fgF (offC T C a.toNat t.toNat) (C 4 a.toNat).toNat 0 (-1) → K (.int (iN (fgF (offC T C a.toNat t.toNat) (C 4 a.toNat).toNat 0 (-1))), 0) (zA M (sZ Z 0) A)) : CT l E d m_Mod_forged [(.ref 24, 41), (.int (iN a), 0), (.int (iN t), 0)] (zA M Z A) K := by
  refine CT.of pn_Mod (Nat.le_of_ble_eq_true rfl) ?_
  have hnn := hV.n
  have lr := hS_rng T C a t
  refine b_Mod_forged_0 (by omega) (r_wrongTray (by omega) hB hV hR hT hr a1 a2 p1 p2 ?_)
  rw [toI_int, iN_le0 (by omega) (by omega)]
  refine ⟨fun c => ?_, fun c => r_refuse (by omega) (by omega) (by omega) (hn (by omega))⟩
  have c0 : hS T C a t = 0 := (by omega)
  have hy := hy c0
  have h6 := h6 c0
  have h0 := hS_0 c0
  have t0 := lS_0 h0.1
  have t1 := livesB_spec t0.1
  obtain ⟨j, rfl⟩ : ∃ j : Nat, t = j := ⟨t.toNat, (by omega)⟩
  obtain ⟨s, rfl⟩ : ∃ s : Nat, a = s := ⟨a.toNat, (by omega)⟩
  rw [show ((j : Int)).toNat = j from rfl, show ((s : Int)).toNat = s from rfl] at hy h0 h6 t0
  have le := hV.le s (by omega)
  have rs := hR.2.1 s t1.2
  have rj := hr j (by omega)
  obtain ⟨n, hl⟩ : ∃ n : Nat, C 4 s = n := ⟨(C 4 s).toNat, (by omega)⟩
  rw [hl, show ((n : Int)).toNat = n from rfl] at hy h0 h6
  rw [hl] at t0
  have key : ∀ (m k : Nat) (b : Int), k + m = n → -1 ≤ b → b < k → fgF (offC T C s j) n 0 (-1) = fgF (offC T C s j) m k b → G l E d m_Mod_forged 23 [(0, (.ref 24, 41)), (1, (.int (iN s), 0)), (2, (.int (iN (j : Int)), 0)), (4, (.int (iN b), 0)), (5, (.int (iN k), 0))] [] (zA M Z A) K := by
    intro m
    induction m with
    | zero =>
      intro k b hk b1 b2 he
      have he : _ = b := he
      refine b_Mod_forged_23 (by omega) (c_of (B := 0) (w := 1) (by omega) hB (by omega) (by omega) (by omega) ?_)
      rw [rs.2.1, hl, toI_int]
      refine ⟨fun _ => r_orNone (by omega) (by omega) (by omega) ?_, fun c => absurd ((iN_le (by omega) (by omega) (by omega) (by omega)).mpr (by omega)) c⟩
      rw [he] at h6 hy
      unfold ansOr
      by_cases c : b = -1
      · rw [if_pos c]; exact h6 (by omega)
      · rw [if_neg c]; exact hy (by omega)
    | succ m ih =>
      intro k b hk b1 b2 he
      have bb := h0.2 k (by omega)
      have sr := sungC_rng hV (s := s) (k := k) (by omega) (by omega)
      have he : _ = (if offC T C s j k = 0 then fgF (offC T C s j) m (k + 1) b else if b = -1 then fgF (offC T C s j) m (k + 1) k else -2) := he
      refine b_Mod_forged_23 (by omega) (c_of (B := 0) (w := 1) (by omega) hB (by omega) (by omega) (by omega) ?_)
      rw [rs.2.1, hl, toI_int]
      refine ⟨fun c => absurd ((iN_le (by omega) (by omega) (by omega) (by omega)).mp c) (by omega), fun _ => r_offBy (k := k) (by omega) hB hV hR hr (by omega) (by omega) (by omega) (by omega) bb.1 bb.2 ?_⟩
      have eo : offC T C s j k = T (20 + j) 1 k - sungC C s k := rfl
      rw [toI_int, iN_eq0 (by omega) (by omega), iN_eq (by omega) (by omega) (by omega) (by omega), iN_add]
      refine ⟨fun c => ⟨fun c2 => ih (k + 1) k (by omega) (by omega) (by omega) ?_, fun c2 => r_refuse (by omega) (by omega) (by omega) (h6 ?_)⟩, fun c => ih (k + 1) b (by omega) b1 (by omega) ?_⟩
      · rw [if_neg c, if_pos c2] at he; exact he
      · rw [if_neg c, if_neg c2] at he; omega
      · rw [if_pos c] at he; exact he
  exact key n 0 (-1) (by omega) (by omega) (by omega) rfl
