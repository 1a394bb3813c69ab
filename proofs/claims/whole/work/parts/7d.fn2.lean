theorem c_falsestQ {l : Launch} {E : EnvT} {d : Nat} {K : AV → Mem → Prop} {M : Mem} {rc : Nat} {a : Int} (hd : 3 ≤ d) (hF : FC M rc) (a1 : -2147483648 ≤ a) (a2 : a < 2147483648) (hn : livesB (M rc) a = false → K (.int (iN (-1)), 0) (stM M 1)) (h : livesB (M rc) a = true → K (.int (iN (ansOr (mostF (fun k => M rc 7 (6 * a.toNat + k)) (M rc 4 a.toNat).toNat 0 (-1) 0) 6).1), 0) (stM M (ansOr (mostF (fun k => M rc 7 (6 * a.toNat + k)) (M rc 4 a.toNat).toNat 0 (-1) 0) 6).2)) : CT l E d m_FN_falsest [(.ref 0, 0), (.int (iN a), 0)] M K := by
  refine CT.of pn_FN (Nat.le_of_ble_eq_true rfl) ?_
  have cl := hF.cl
  have hV := hF.2.2
  have hnn := hV.n
  refine b_FN_falsest_0 (by omega) ?_
  rw [hF.eq]
  refine ⟨cl, c_lives (by omega) hV a1 a2 ?_⟩
  rw [toI_int, b2i_z]
  refine ⟨fun c => ?_, fun c => c_refuse (by omega) (by omega) (by omega) (hn c)⟩
  rw [Bool.not_eq_false] at c
  have t := livesB_spec c
  obtain ⟨s, rfl⟩ : ∃ s : Nat, a = s := ⟨a.toNat, (by omega)⟩
  have h := h c
  rw [show ((s : Int)).toNat = s from rfl] at h
  have le := hV.le s (by omega)
  obtain ⟨n, hl⟩ : ∃ n : Nat, M rc 4 s = n := ⟨(M rc 4 s).toNat, (by omega)⟩
  rw [hl, show ((n : Int)).toNat = n from rfl] at h
  have key : ∀ (k j : Nat) (b m : Int), j + k = n → -1 ≤ b → b < j → 0 ≤ m → m ≤ 999 → mostF (fun k => M rc 7 (6 * s + k)) n 0 (-1) 0 = mostF (fun k => M rc 7 (6 * s + k)) k j b m → G l E d m_FN_falsest 24 [(0, (.ref 0, 0)), (1, (.int (iN s), 0)), (2, (.int (iN b), 0)), (3, (.int (iN m), 0)), (4, (.int (iN j), 0))] [] M K := by
    intro k
    induction k with
    | zero =>
      intro j b m hs b1 b2 m1 m2 he
      refine b_FN_falsest_24 (by omega) ?_
      rw [hF.eq, iN_clN (by omega), hl]
      refine ⟨cl, iN_in (by omega) (by omega) (by omega), fun _ => c_answerOr (by omega) (by omega) (by omega) (by omega) (by omega) ?_, fun c => absurd ((iN_le (by omega) (by omega) (by omega) (by omega)).mpr (by omega)) c⟩
      rw [he] at h
      exact h
    | succ k ih =>
      intro j b m hs b1 b2 m1 m2 he
      have mr := hV.de (6 * s + j) (by omega)
      have he : _ = (if m < M rc 7 (6 * s + j) then mostF (fun k => M rc 7 (6 * s + k)) k (j + 1) j (M rc 7 (6 * s + j)) else mostF (fun k => M rc 7 (6 * s + k)) k (j + 1) b m) := he
      refine b_FN_falsest_24 (by omega) ?_
      rw [hF.eq, iN_clN (by omega), hl]
      refine ⟨cl, iN_in (by omega) (by omega) (by omega), fun c => absurd ((iN_le (by omega) (by omega) (by omega) (by omega)).mp c) (by omega), fun _ => ⟨cl, c_slot (by omega) ?_⟩⟩
      rw [show (s : Int) * 6 + j = ((6 * s + j : Nat) : Int) by push_cast; omega, toI_int, iN_clN (by omega), iN_le (by omega) (by omega) (by omega) (by omega), iN_add]
      refine ⟨iN_in (by omega) (by omega) (by omega), fun c => ih (j + 1) b m (by omega) b1 (by omega) m1 m2 ?_, fun c => ih (j + 1) j _ (by omega) (by omega) (by omega) (by omega) (by omega) ?_⟩
      · rw [if_neg (by omega)] at he; exact he
      · rw [if_pos (by omega)] at he; exact he
  exact key n 0 (-1) 0 (by omega) (by omega) (by omega) (by omega) (by omega) rfl
theorem c_whoseQ {l : Launch} {E : EnvT} {d : Nat} {K : AV → Mem → Prop} {M : Mem} {rc : Nat} {a b : Int} (hd : 3 ≤ d) (hF : FC M rc) (a1 : -2147483648 ≤ a) (a2 : a < 2147483648) (b1 : -2147483648 ≤ b) (b2 : b < 2147483648) (hn : ¬ (livesB (M rc) a = true ∧ 1 ≤ b ∧ b ≤ 999) → K (.int (iN (-1)), 0) (stM M 1)) (h6 : livesB (M rc) a = true → 1 ≤ b → b ≤ 999 → fnd (fun k => M rc 7 (6 * a.toNat + k) == b) (M rc 4 a.toNat).toNat = -1 → K (.int (iN (-1)), 0) (stM M 6)) (hy : livesB (M rc) a = true → 1 ≤ b → b ≤ 999 → ∀ j : Nat, fnd (fun k => M rc 7 (6 * a.toNat + k) == b) (M rc 4 a.toNat).toNat = j → K (.int (iN (M rc 6 (6 * a.toNat + j))), 0) (stM M 0)) : CT l E d m_FN_whose [(.ref 0, 0), (.int (iN a), 0), (.int (iN b), 0)] M K := by
  refine CT.of pn_FN (Nat.le_of_ble_eq_true rfl) ?_
  have cl := hF.cl
  have hV := hF.2.2
  have hnn := hV.n
  refine b_FN_whose_0 (by omega) ?_
  rw [hF.eq]
  refine ⟨cl, c_lives (by omega) hV a1 a2 ?_⟩
  rw [toI_int, b2i_z, iN_lt b1 b2 (by omega) (by omega), iN_le b1 b2 (by omega) (by omega)]
  refine ⟨fun c => c_refuse (by omega) (by omega) (by omega) (hn (fun q => by rw [c] at q; exact absurd q.1 (by decide))), fun c => ⟨fun c2 => c_refuse (by omega) (by omega) (by omega) (hn (fun q => by omega)), fun c2 => ⟨fun c3 => ?_, fun c3 => c_refuse (by omega) (by omega) (by omega) (hn (fun q => by omega))⟩⟩⟩
  rw [Bool.not_eq_false] at c
  have t := livesB_spec c
  obtain ⟨s, rfl⟩ : ∃ s : Nat, a = s := ⟨a.toNat, (by omega)⟩
  have h6 := h6 c (by omega) (by omega)
  have hy := hy c (by omega) (by omega)
  rw [show ((s : Int)).toNat = s from rfl] at h6 hy
  have le := hV.le s (by omega)
  obtain ⟨n, hl⟩ : ∃ n : Nat, M rc 4 s = n := ⟨(M rc 4 s).toNat, (by omega)⟩
  rw [hl, show ((n : Int)).toNat = n from rfl] at h6 hy
  have key : ∀ (k j : Nat), j + k = n → fnd (fun k => M rc 7 (6 * s + k) == b) n = fndF (fun k => M rc 7 (6 * s + k) == b) j k → G l E d m_FN_whose 31 [(0, (.ref 0, 0)), (1, (.int (iN s), 0)), (2, (.int (iN b), 0)), (3, (.int (iN j), 0))] [] M K := by
    intro k
    induction k with
    | zero =>
      intro j hs he
      refine b_FN_whose_31 (by omega) ?_
      rw [hF.eq, iN_clN (by omega), hl]
      exact ⟨cl, iN_in (by omega) (by omega) (by omega), fun _ => c_refuse (by omega) (by omega) (by omega) (h6 he), fun c => absurd ((iN_le (by omega) (by omega) (by omega) (by omega)).mpr (by omega)) c⟩
    | succ k ih =>
      intro j hs he
      have mr := hV.de (6 * s + j) (by omega)
      have he : _ = (if (M rc 7 (6 * s + j) == b) = true then (j : Int) else fndF (fun k => M rc 7 (6 * s + k) == b) (j + 1) k) := he
      refine b_FN_whose_31 (by omega) ?_
      rw [hF.eq, iN_clN (by omega), hl]
      refine ⟨cl, iN_in (by omega) (by omega) (by omega), fun c => absurd ((iN_le (by omega) (by omega) (by omega) (by omega)).mp c) (by omega), fun _ => c_slot (by omega) ?_⟩
      rw [show (s : Int) * 6 + j = ((6 * s + j : Nat) : Int) by push_cast; omega, toI_int, iN_clN (by omega), hF.eq, iN_eq (by omega) (by omega) b1 b2, iN_add]
      refine ⟨cl, iN_in (by omega) (by omega) (by omega), fun c => ih (j + 1) (by omega) ?_, fun c => ⟨cl, iN_in (by omega) (by omega) (by omega), c_answer (by omega) (hy j ?_)⟩⟩
      · rw [if_neg (by simp [c])] at he; exact he
      · rw [if_pos (by simp [c])] at he; exact he
  exact key n 0 (by omega) rfl
def whenF (h k : Int) : Nat → Nat → Int → Int
  | 0, _, _ => -1
  | m + 1, w, x => if k ≤ x then (w : Int) else whenF h k m (w + 1) (grownC h x)
theorem c_whenQ {l : Launch} {E : EnvT} {d : Nat} {K : AV → Mem → Prop} {M : Mem} {rc : Nat} {x k : Int} (hd : 3 ≤ d) (hF : FC M rc) (a1 : -2147483648 ≤ x) (a2 : x < 2147483648) (b1 : -2147483648 ≤ k) (b2 : k < 2147483648) (hn : ¬ (0 ≤ x ∧ x ≤ 999 ∧ 0 ≤ k ∧ k ≤ 999) → K (.int (iN (-1)), 0) (stM M 1)) (hy : 0 ≤ x → x ≤ 999 → 0 ≤ k → k ≤ 999 → K (.int (iN (ansOr (whenF (M rc 0 13) k 1000 0 x) 6).1), 0) (stM M (ansOr (whenF (M rc 0 13) k 1000 0 x) 6).2)) : CT l E d m_FN_when [(.ref 0, 0), (.int (iN x), 0), (.int (iN k), 0)] M K := by
  refine CT.of pn_FN (Nat.le_of_ble_eq_true rfl) ?_
  have cl := hF.cl
  have hV := hF.2.2
  have hh := hV.hum
  refine b_FN_when_0 (by omega) (c_isDebt (by omega) a1 a2 ?_)
  rw [toI_int, b2i_z]
  refine ⟨fun c => c_refuse (by omega) (by omega) (by omega) (hn (fun q => ?_)), fun c => c_isDebt (by omega) b1 b2 ?_⟩
  · have := of_decide_eq_false c; omega
  rw [Bool.not_eq_false] at c
  have t1 : 0 ≤ x ∧ x ≤ 999 := of_decide_eq_true c
  rw [toI_int, b2i_z]
  refine ⟨fun c2 => ?_, fun c2 => c_refuse (by omega) (by omega) (by omega) (hn (fun q => ?_))⟩
  · rw [Bool.not_eq_false] at c2
    have t2 : 0 ≤ k ∧ k ≤ 999 := of_decide_eq_true c2
    have hy := hy (by omega) (by omega) (by omega) (by omega)
    have key : ∀ (m w : Nat) (y : Int), w + m = 1000 → 0 ≤ y → y ≤ 999 → whenF (M rc 0 13) k 1000 0 x = whenF (M rc 0 13) k m w y → G l E d m_FN_when 25 [(0, (.ref 0, 0)), (2, (.int (iN k), 0)), (3, (.int (iN y), 0)), (4, (.int (iN w), 0))] [] M K := by
      intro m
      induction m with
      | zero =>
        intro w y hw y1 y2 he
        have he : _ = (-1 : Int) := he
        rw [he] at hy
        exact b_FN_when_25 (by omega) ⟨fun _ => c_refuse (by omega) (by omega) (by omega) hy, fun c => absurd ((iN_lt (by omega) (by omega) (by omega) (by omega)).mpr (by omega)) c⟩
      | succ m ih =>
        intro w y hw y1 y2 he
        have he : _ = (if k ≤ y then (w : Int) else whenF (M rc 0 13) k m (w + 1) (grownC (M rc 0 13) y)) := he
        have gr := grownC_rng hh.1 hh.2 y1 y2
        refine b_FN_when_25 (by omega) ⟨fun c => absurd ((iN_lt (by omega) (by omega) (by omega) (by omega)).mp c) (by omega), fun _ => ?_⟩
        rw [hF.eq, iN_lt (by omega) (by omega) (by omega) (by omega)]
        refine ⟨fun c => ⟨cl, c_grown (by omega) hV y1 y2 ?_⟩, fun c => c_answer (by omega) ?_⟩
        · rw [toI_int, iN_add]
          rw [if_neg (by omega)] at he
          exact ih (w + 1) _ (by omega) gr.1 gr.2 he
        · rw [if_pos (by omega)] at he
          rw [he] at hy
          unfold ansOr at hy
          rw [if_neg (by omega)] at hy
          exact hy
    exact key 1000 0 x (by omega) (by omega) (by omega) rfl
  · have := of_decide_eq_false c2; omega
/-- halving, as before does it -/
def befF (h : Int) (w : Nat) (x : Int) : Nat → Int → Int → Int
  | 0, lo, _ => lo
  | m + 1, lo, hi => if hi ≤ lo then lo else if growsC h w ((lo + hi) / 2) < x then befF h w x m ((lo + hi) / 2 + 1) hi else befF h w x m lo ((lo + hi) / 2)
theorem c_beforeQ {l : Launch} {E : EnvT} {d : Nat} {K : AV → Mem → Prop} {M : Mem} {rc : Nat} {x w : Int} (hd : 4 ≤ d) (hF : FC M rc) (a1 : -2147483648 ≤ x) (a2 : x < 2147483648) (b1 : -2147483648 ≤ w) (b2 : w < 2147483648) (hn : ¬ (0 ≤ x ∧ x ≤ 999 ∧ 0 ≤ w ∧ w ≤ 999) → K (.int (iN (-1)), 0) (stM M 1)) (hy : 0 ≤ x → x ≤ 999 → 0 ≤ w → w ≤ 999 → K (.int (iN (befF (M rc 0 13) w.toNat x 32 0 999)), 0) (stM M 0)) : CT l E d m_FN_before [(.ref 0, 0), (.int (iN x), 0), (.int (iN w), 0)] M K := by
  refine CT.of pn_FN (Nat.le_of_ble_eq_true rfl) ?_
  have cl := hF.cl
  have hV := hF.2.2
  have hh := hV.hum
  refine b_FN_before_0 (by omega) (c_isDebt (by omega) a1 a2 ?_)
  rw [toI_int, b2i_z]
  refine ⟨fun c => c_refuse (by omega) (by omega) (by omega) (hn (fun q => ?_)), fun c => c_isSpan (by omega) b1 b2 ?_⟩
  · have := of_decide_eq_false c; omega
  rw [Bool.not_eq_false] at c
  have t1 : 0 ≤ x ∧ x ≤ 999 := of_decide_eq_true c
  rw [toI_int, b2i_z]
  refine ⟨fun c2 => ?_, fun c2 => c_refuse (by omega) (by omega) (by omega) (hn (fun q => ?_))⟩
  · rw [Bool.not_eq_false] at c2
    have t2 : 0 ≤ w ∧ w ≤ 999 := of_decide_eq_true c2
    have hy := hy (by omega) (by omega) (by omega) (by omega)
    obtain ⟨v, rfl⟩ : ∃ v : Nat, w = v := ⟨w.toNat, (by omega)⟩
    rw [show ((v : Int)).toNat = v from rfl] at hy
    have n2 : ¬ iN 2 = 0 := by decide +kernel
    have key : ∀ (m t : Nat) (lo hi : Int), t + m = 32 → 0 ≤ lo → lo ≤ 1000 → 0 ≤ hi → hi ≤ 999 → befF (M rc 0 13) v x 32 0 999 = befF (M rc 0 13) v x m lo hi → G l E d m_FN_before 30 [(0, (.ref 0, 0)), (1, (.int (iN x), 0)), (2, (.int (iN (v : Int)), 0)), (3, (.int (iN lo), 0)), (4, (.int (iN hi), 0)), (5, (.int (iN t), 0))] [] M K := by
      intro m
      induction m with
      | zero =>
        intro t lo hi ht l1 l2 h1 h2 he
        have he : _ = lo := he
        rw [he] at hy
        exact b_FN_before_30 (by omega) ⟨fun _ => c_answer (by omega) hy, fun c => absurd ((iN_le (by omega) (by omega) (by omega) (by omega)).mpr (by omega)) c⟩
      | succ m ih =>
        intro t lo hi ht l1 l2 h1 h2 he
        have he : _ = (if hi ≤ lo then lo else if growsC (M rc 0 13) v ((lo + hi) / 2) < x then befF (M rc 0 13) v x m ((lo + hi) / 2 + 1) hi else befF (M rc 0 13) v x m lo ((lo + hi) / 2)) := he
        refine b_FN_before_30 (by omega) ⟨fun c => absurd ((iN_le (by omega) (by omega) (by omega) (by omega)).mp c) (by omega), fun _ => ?_⟩
        rw [hF.eq, iN_le (by omega) (by omega) (by omega) (by omega)]
        refine ⟨fun c => c_answer (by omega) ?_, fun c => ⟨n2, cl, ?_⟩⟩
        · rw [if_pos c] at he
          rw [he] at hy
          exact hy
        · rw [if_neg c] at he
          rw [iN_add, iN_div (by omega) (by omega) (by omega) (by omega)]
          refine c_grownIn (by omega) hV (by omega) (by omega) (by omega) ?_
          have gr := growsC_rng hh.1 hh.2 (x := (lo + hi) / 2) (by omega) (by omega) v
          rw [toI_int, iN_lt (by omega) (by omega) (by omega) (by omega), iN_add, iN_add]
          refine ⟨fun c3 => ih (t + 1) _ _ (by omega) (by omega) (by omega) (by omega) (by omega) ?_, fun c3 => ih (t + 1) _ _ (by omega) (by omega) (by omega) (by omega) (by omega) ?_⟩
          · rw [if_pos c3] at he; exact he
          · rw [if_neg c3] at he; exact he
    exact key 32 0 0 999 (by omega) (by omega) (by omega) (by omega) (by omega) rfl
  · have := of_decide_eq_false c2; omega
theorem c_livedQ {l : Launch} {E : EnvT} {d : Nat} {K : AV → Mem → Prop} {M : Mem} {z : Int} (hd : 2 ≤ d) (z1 : -2147483648 ≤ z) (z2 : z < 2147483648) (hp : M 13 0 1 = 0 ∨ M 13 0 1 = 1) (hn : ¬ (0 ≤ z ∧ z ≤ 4) → K (.int (iN (-1)), 0) (stM M 1)) (h6 : 0 ≤ z → z ≤ 4 → M 13 0 1 = 0 → K (.int (iN (-1)), 0) (stM M 6)) (hy : 0 ≤ z → z ≤ 4 → M 13 0 1 = 1 → K (.int (iN (M 13 0 (3 + z.toNat))), 0) (stM M 0)) : CT l E d m_FN_lived [(.ref 0, 0), (.int (iN z), 0)] M K := by
  refine CT.of pn_FN (Nat.le_of_ble_eq_true rfl) ?_
  refine b_FN_lived_0 (by omega) ?_
  have ek : ∀ j : Int, -100 ≤ j → j ≤ 100 → (iN z = iN j ↔ z = j) := fun j j1 j2 => iN_eq z1 z2 (by omega) (by omega)
  rw [iN_lt0 z1 z2, iN_le z1 z2 (by omega) (by omega), iN_eq0 (a := M 13 0 1) (by omega) (by omega), ek 0 (by omega) (by omega), ek 1 (by omega) (by omega), ek 2 (by omega) (by omega), ek 3 (by omega) (by omega)]
  refine ⟨fun c => c_refuse (by omega) (by omega) (by omega) (hn (by omega)), fun c => ⟨fun c2 => ⟨fun c3 => ?_, fun c3 => c_refuse (by omega) (by omega) (by omega) (h6 (by omega) (by omega) c3)⟩, fun c2 => c_refuse (by omega) (by omega) (by omega) (hn (by omega))⟩⟩
  have hy := hy (by omega) (by omega) (by omega)
  have lf : ∀ j : Nat, z = j → K (.int (iN (M 13 0 (3 + j))), 0) (stM M 0) := fun j e => by rw [e] at hy; exact hy
  exact ⟨fun e => c_answer (by omega) (lf 0 e), fun n0 => ⟨fun e => c_answer (by omega) (lf 1 e), fun n1 => ⟨fun e => c_answer (by omega) (lf 2 e), fun n2 => ⟨fun e => c_answer (by omega) (lf 3 e), fun n3 => c_answer (by omega) (lf 4 (by omega))⟩⟩⟩⟩
def FY (M : Mem) (ry : Nat) : Prop := M 0 0 11 = ry ∧ (ry = 18 ∨ ry = 19) ∧ YB (M ry)
theorem FY.eq {M : Mem} {ry : Nat} (h : FY M ry) : (M 0 0 11).toNat = ry := by rw [h.1]; rfl
theorem FY.cl {M : Mem} {ry : Nat} (h : FY M ry) : (ry, 23) ∈ CL := by rcases h.2.1 with rfl | rfl <;> decide +kernel
theorem c_markQ {l : Launch} {E : EnvT} {d : Nat} {K : AV → Mem → Prop} {M : Mem} {rc ry k : Nat} (hd : 4 ≤ d) (hF : FC M rc) (hG : FY M ry) (hk : M 5 0 2 = k) (k3 : k ≤ 3) (hn : k = 3 → K (.int (iN (-1)), 0) (stM M 4)) (hy : k < 3 → K (.int (iN ((k : Int) + 1)), 0) (stM (setR (setR (setR M (6 + 2 * k) (M rc)) (7 + 2 * k) (M ry)) 5 (upd2 (M 5) 0 2 (k + 1))) 0)) : CT l E d m_FN_mark [(.ref 0, 0)] M K := by
  refine CT.of pn_FN (Nat.le_of_ble_eq_true rfl) ?_
  have cl := hF.cl
  refine b_FN_mark_0 (by omega) ?_
  rw [hF.eq, hG.eq, hk, iN_lt (by omega) (by omega) (by omega) (by omega)]
  refine ⟨fun c => ⟨cl, hG.cl, c_keep (by omega) hk (by omega) hF.2.1 hG.2.1 hF.2.2 hG.2.2 (c_answer (by omega) ?_)⟩, fun c => c_refuse (by omega) (by omega) (by omega) (hn (by omega))⟩
  rw [setR_same, upd2_same]
  exact hy (by omega)
theorem c_undoQ {l : Launch} {E : EnvT} {d : Nat} {K : AV → Mem → Prop} {M : Mem} {rc ry k : Nat} (hd : 4 ≤ d) (hF : FC M rc) (hG : FY M ry) (hk : M 5 0 2 = k) (k3 : k ≤ 3) (hV : ∀ j, j < k → VB (M (6 + 2 * j)) ∧ YB (M (7 + 2 * j))) (hn : k = 0 → K (.int (iN (-1)), 0) (stM M 6)) (hy : ∀ j, k = j + 1 → K (.int (iN (j : Int)), 0) (stM (setR (setR (setR M 5 (upd2 (M 5) 0 2 j)) rc (M (6 + 2 * j))) ry (M (7 + 2 * j))) 0)) : CT l E d m_FN_undo [(.ref 0, 0)] M K := by
  refine CT.of pn_FN (Nat.le_of_ble_eq_true rfl) ?_
  have cl := hF.cl
  have r1 := hF.2.1
  have r2 := hG.2.1
  refine b_FN_undo_0 (by omega) ?_
  rw [hF.eq, hG.eq, hk, iN_eq0 (by omega) (by omega)]
  refine ⟨fun c => ⟨cl, hG.cl, ?_⟩, fun c => c_refuse (by omega) (by omega) (by omega) (hn (by omega))⟩
  obtain ⟨j, rfl⟩ : ∃ j, k = j + 1 := ⟨k - 1, (by omega)⟩
  have v := hV j (by omega)
  refine c_giveBack (by omega) (k := j) (by rw [hk]; rfl) (by omega) r1 r2 v.1 v.2 (c_answer (by omega) ?_)
  rw [setR_ne _ _ (by omega), setR_ne _ _ (by omega), setR_same, upd2_same]
  exact hy j rfl
