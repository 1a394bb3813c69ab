theorem growsC_succ (h : Int) : ∀ (n : Nat) (x : Int), growsC h (n + 1) x = growsC h n (grownC h x)
  | 0, _ => rfl
  | n + 1, x => by
    show grownC h (growsC h (n + 1) x) = grownC h (growsC h n (grownC h x))
    rw [growsC_succ h n x]
theorem grownC_mono {h x y : Int} (h1 : 0 ≤ h) (h2 : h ≤ 50) (h3 : 0 ≤ x) (h4 : x ≤ y) (h5 : y ≤ 999) : grownC h x ≤ grownC h y := by
  have m : x * h ≤ y * h := Int.mul_le_mul_of_nonneg_right h4 h1
  have m0 : 0 ≤ x * h := Int.mul_nonneg h3 h1
  unfold grownC
  split <;> split <;> omega
theorem growsC_mono {h x y : Int} (h1 : 0 ≤ h) (h2 : h ≤ 50) (h3 : 0 ≤ x) (h4 : x ≤ y) (h5 : y ≤ 999) : ∀ n, growsC h n x ≤ growsC h n y
  | 0 => h4
  | n + 1 => grownC_mono h1 h2 (growsC_rng h1 h2 h3 (by omega) n).1 (growsC_mono h1 h2 h3 h4 h5 n) (growsC_rng h1 h2 (by omega) h5 n).2
theorem growsC_999 {h : Int} (h1 : 0 ≤ h) (h2 : h ≤ 50) : ∀ n, growsC h n 999 = 999
  | 0 => rfl
  | n + 1 => by
    show grownC h (growsC h n 999) = 999
    rw [growsC_999 h1 h2 n]
    unfold grownC
    split <;> omega
theorem befF_spec {h x : Int} {w : Nat} (h1 : 0 ≤ h) (h2 : h ≤ 50) : ∀ (m : Nat) (lo hi : Int), 0 ≤ lo → lo ≤ hi → hi ≤ 999 → hi - lo < 2 ^ m → (∀ j, 0 ≤ j → j < lo → growsC h w j < x) → x ≤ growsC h w hi → (0 ≤ befF h w x m lo hi ∧ befF h w x m lo hi ≤ 999) ∧ (∀ j, 0 ≤ j → j < befF h w x m lo hi → growsC h w j < x) ∧ x ≤ growsC h w (befF h w x m lo hi) := by
  intro m
  induction m with
  | zero =>
    intro lo hi l0 l1 l2 l3 l4 l5
    have : lo = hi := (by omega)
    subst this
    exact ⟨⟨l0, l2⟩, l4, l5⟩
  | succ m ih =>
    intro lo hi l0 l1 l2 l3 l4 l5
    rw [Int.pow_succ] at l3
    show (_ ≤ (if hi ≤ lo then lo else if growsC h w ((lo + hi) / 2) < x then befF h w x m ((lo + hi) / 2 + 1) hi else befF h w x m lo ((lo + hi) / 2)) ∧ (if hi ≤ lo then lo else if growsC h w ((lo + hi) / 2) < x then befF h w x m ((lo + hi) / 2 + 1) hi else befF h w x m lo ((lo + hi) / 2)) ≤ _) ∧ (∀ j, 0 ≤ j → j < (if hi ≤ lo then lo else if growsC h w ((lo + hi) / 2) < x then befF h w x m ((lo + hi) / 2 + 1) hi else befF h w x m lo ((lo + hi) / 2)) → growsC h w j < x) ∧ x ≤ growsC h w (if hi ≤ lo then lo else if growsC h w ((lo + hi) / 2) < x then befF h w x m ((lo + hi) / 2 + 1) hi else befF h w x m lo ((lo + hi) / 2))
    by_cases c : hi ≤ lo
    · have : lo = hi := (by omega)
      subst this
      rw [if_pos c]
      exact ⟨⟨(by omega), (by omega)⟩, l4, l5⟩
    · rw [if_neg c]
      by_cases c2 : growsC h w ((lo + hi) / 2) < x
      · rw [if_pos c2]
        refine ih _ _ (by omega) (by omega) (by omega) (by omega) (fun j j0 j1 => ?_) l5
        have := growsC_mono (x := j) (y := (lo + hi) / 2) h1 h2 j0 (by omega) (by omega) w
        omega
      · rw [if_neg c2]
        exact ih _ _ (by omega) (by omega) (by omega) (by omega) l4 (by omega)
theorem r_grownBy {l : Launch} {E : EnvT} {d : Nat} {K : AV → Mem → Prop} {M : Mem} {C Z : Ch} {A : Nat → Int} {x : Int} {w : Nat} (hd : 3 ≤ d) (hV : VB C) (hR : RR C A 0) (h1 : 0 ≤ x) (h2 : x ≤ 999) (hw : w ≤ 999) (h : K (.int (iN (growsC (C 0 13) w x)), 0) (zA M Z A)) : CT l E d m_Mod_grownBy [(.ref 24, 41), (.int (iN x), 0), (.int (iN (w : Int)), 0)] (zA M Z A) K := by
  refine CT.of pn_Mod (Nat.le_of_ble_eq_true rfl) ?_
  have hh := hV.hum
  refine b_Mod_grownBy_0 (by omega) ?_
  have key : ∀ (m k : Nat), k + m = w → G l E d m_Mod_grownBy 5 [(0, (.ref 24, 41)), (2, (.int (iN (w : Int)), 0)), (3, (.int (iN (growsC (C 0 13) k x)), 0)), (4, (.int (iN (k : Int)), 0))] [] (zA M Z A) K := by
    intro m
    induction m with
    | zero =>
      intro k e
      refine b_Mod_grownBy_5 (by omega) ⟨fun _ => ?_, fun c => absurd ((iN_le (by omega) (by omega) (by omega) (by omega)).mpr (by omega)) c⟩
      rw [show k = w by omega]
      exact h
    | succ m ih =>
      intro k e
      have gr := growsC_rng hh.1 hh.2 h1 h2 k
      refine b_Mod_grownBy_5 (by omega) ⟨fun c => absurd ((iN_le (by omega) (by omega) (by omega) (by omega)).mp c) (by omega), fun _ => c_grownM (by omega) hV hR.1.2.1 gr.1 gr.2 ?_⟩
      rw [iN_add]
      exact ih (k + 1) (by omega)
  exact key w 0 (by omega)
theorem r_grows {l : Launch} {E : EnvT} {d : Nat} {K : AV → Mem → Prop} {M : Mem} {C Z : Ch} {A : Nat → Int} {x w : Int} (hd : 4 ≤ d) (hV : VB C) (hR : RR C A 0) (x1 : -2147483648 ≤ x) (x2 : x < 2147483648) (w1 : -2147483648 ≤ w) (w2 : w < 2147483648) (h : K (.int (iN (growQ C x w).1), 0) (zA M (sZ Z (growQ C x w).2) A)) : CT l E d m_Mod_grows [(.ref 24, 41), (.int (iN x), 0), (.int (iN w), 0)] (zA M Z A) K := by
  refine CT.of pn_Mod (Nat.le_of_ble_eq_true rfl) ?_
  unfold growQ at h
  refine b_Mod_grows_0 (by omega) (r_isOwed (by omega) x1 x2 ?_)
  rw [toI_int, b2i_z]
  refine ⟨fun c => r_refuse (by omega) (by omega) (by omega) ?_, fun c => r_isOwed (by omega) w1 w2 ?_⟩
  · rw [c, Bool.false_and, if_neg (by simp)] at h; exact h
  rw [Bool.not_eq_false] at c
  rw [c, Bool.true_and] at h
  have t : 0 ≤ x ∧ x ≤ 999 := of_decide_eq_true c
  rw [toI_int, b2i_z]
  refine ⟨fun c2 => r_refuse (by omega) (by omega) (by omega) ?_, fun c2 => ?_⟩
  · rw [c2, if_neg (by simp)] at h; exact h
  rw [Bool.not_eq_false] at c2
  rw [c2, if_pos rfl] at h
  have t2 : 0 ≤ w ∧ w ≤ 999 := of_decide_eq_true c2
  obtain ⟨v, rfl⟩ : ∃ v : Nat, w = v := ⟨w.toNat, (by omega)⟩
  exact r_grownBy (by omega) hV hR t.1 t.2 (by omega) (r_gives (by omega) h)
theorem r_when {l : Launch} {E : EnvT} {d : Nat} {K : AV → Mem → Prop} {M : Mem} {C Z : Ch} {A : Nat → Int} {x k : Int} (hd : 3 ≤ d) (hV : VB C) (hR : RR C A 0) (a1 : -2147483648 ≤ x) (a2 : x < 2147483648) (b1 : -2147483648 ≤ k) (b2 : k < 2147483648) (hn : ¬ (0 ≤ x ∧ x ≤ 999 ∧ 0 ≤ k ∧ k ≤ 999) → K (.int (iN (-1)), 0) (zA M (sZ Z 1) A)) (hy : 0 ≤ x → x ≤ 999 → 0 ≤ k → k ≤ 999 → K (.int (iN (ansOr (whenF (C 0 13) k 1000 0 x) 6).1), 0) (zA M (sZ Z (ansOr (whenF (C 0 13) k 1000 0 x) 6).2) A)) : CT l E d m_Mod_when [(.ref 24, 41), (.int (iN x), 0), (.int (iN k), 0)] (zA M Z A) K := by
  refine CT.of pn_Mod (Nat.le_of_ble_eq_true rfl) ?_
  have hh := hV.hum
  refine b_Mod_when_0 (by omega) (r_isOwed (by omega) a1 a2 ?_)
  rw [toI_int, b2i_z]
  refine ⟨fun c => r_refuse (by omega) (by omega) (by omega) (hn (fun q => ?_)), fun c => r_isOwed (by omega) b1 b2 ?_⟩
  · have := of_decide_eq_false c; omega
  rw [Bool.not_eq_false] at c
  have t1 : 0 ≤ x ∧ x ≤ 999 := of_decide_eq_true c
  rw [toI_int, b2i_z]
  refine ⟨fun c2 => ?_, fun c2 => r_refuse (by omega) (by omega) (by omega) (hn (fun q => ?_))⟩
  · rw [Bool.not_eq_false] at c2
    have t2 : 0 ≤ k ∧ k ≤ 999 := of_decide_eq_true c2
    have hy := hy (by omega) (by omega) (by omega) (by omega)
    have key : ∀ (m w : Nat) (y : Int), w + m = 1000 → 0 ≤ y → y ≤ 999 → whenF (C 0 13) k 1000 0 x = whenF (C 0 13) k m w y → G l E d m_Mod_when 25 [(0, (.ref 24, 41)), (2, (.int (iN k), 0)), (3, (.int (iN y), 0)), (4, (.int (iN w), 0))] [] (zA M Z A) K := by
      intro m
      induction m with
      | zero =>
        intro w y hw y1 y2 he
        have he : _ = (-1 : Int) := he
        rw [he] at hy
        exact b_Mod_when_25 (by omega) ⟨fun _ => r_refuse (by omega) (by omega) (by omega) hy, fun c => absurd ((iN_lt (by omega) (by omega) (by omega) (by omega)).mpr (by omega)) c⟩
      | succ m ih =>
        intro w y hw y1 y2 he
        have he : _ = (if k ≤ y then (w : Int) else whenF (C 0 13) k m (w + 1) (grownC (C 0 13) y)) := he
        have gr := grownC_rng hh.1 hh.2 y1 y2
        refine b_Mod_when_25 (by omega) ⟨fun c => absurd ((iN_lt (by omega) (by omega) (by omega) (by omega)).mp c) (by omega), fun _ => ?_⟩
        rw [iN_lt (by omega) (by omega) (by omega) (by omega)]
        refine ⟨fun c => c_grownM (by omega) hV hR.1.2.1 y1 y2 ?_, fun c => r_gives (by omega) ?_⟩
        · rw [toI_int, iN_add]
          rw [if_neg (by omega)] at he
          exact ih (w + 1) _ (by omega) gr.1 gr.2 he
        · rw [if_pos (by omega)] at he
          rw [he] at hy
          unfold ansOr at hy
          rw [if_neg (by omega)] at hy
          exact hy
    exact key 1000 0 x (by omega) (by omega) (by omega) rfl
  · have := of_decide_eq_false c2; omega
theorem r_before {l : Launch} {E : EnvT} {d : Nat} {K : AV → Mem → Prop} {M : Mem} {C Z : Ch} {A : Nat → Int} {x w : Int} (hd : 4 ≤ d) (hV : VB C) (hR : RR C A 0) (a1 : -2147483648 ≤ x) (a2 : x < 2147483648) (b1 : -2147483648 ≤ w) (b2 : w < 2147483648) (hn : ¬ (0 ≤ x ∧ x ≤ 999 ∧ 0 ≤ w ∧ w ≤ 999) → K (.int (iN (-1)), 0) (zA M (sZ Z 1) A)) (hy : 0 ≤ x → x ≤ 999 → 0 ≤ w → w ≤ 999 → K (.int (iN (befF (C 0 13) w.toNat x 32 0 999)), 0) (zA M (sZ Z 0) A)) : CT l E d m_Mod_before [(.ref 24, 41), (.int (iN x), 0), (.int (iN w), 0)] (zA M Z A) K := by
  refine CT.of pn_Mod (Nat.le_of_ble_eq_true rfl) ?_
  have hh := hV.hum
  refine b_Mod_before_0 (by omega) (r_isOwed (by omega) a1 a2 ?_)
  rw [toI_int, b2i_z]
  refine ⟨fun c => r_refuse (by omega) (by omega) (by omega) (hn (fun q => ?_)), fun c => r_isOwed (by omega) b1 b2 ?_⟩
  · have := of_decide_eq_false c; omega
  rw [Bool.not_eq_false] at c
  have t1 : 0 ≤ x ∧ x ≤ 999 := of_decide_eq_true c
  rw [toI_int, b2i_z]
  refine ⟨fun c2 => ?_, fun c2 => r_refuse (by omega) (by omega) (by omega) (hn (fun q => ?_))⟩
  · rw [Bool.not_eq_false] at c2
    have t2 : 0 ≤ w ∧ w ≤ 999 := of_decide_eq_true c2
    have hy := hy (by omega) (by omega) (by omega) (by omega)
    obtain ⟨v, rfl⟩ : ∃ v : Nat, w = v := ⟨w.toNat, (by omega)⟩
    rw [show ((v : Int)).toNat = v from rfl] at hy
    obtain ⟨⟨s1, s2⟩, s3, s4⟩ := befF_spec (x := x) (w := v) hh.1 hh.2 32 0 999 (by omega) (by omega) (by omega) (by decide) (fun j j0 j1 => by omega) (by rw [growsC_999 hh.1 hh.2]; omega)
    obtain ⟨b, hb⟩ : ∃ b : Nat, befF (C 0 13) v x 32 0 999 = b := ⟨(befF (C 0 13) v x 32 0 999).toNat, (by omega)⟩
    rw [hb] at s1 s2 s3 s4 hy
    have key : ∀ (m k : Nat), k + m = b → G l E d m_Mod_before 22 [(0, (.ref 24, 41)), (1, (.int (iN x), 0)), (2, (.int (iN (v : Int)), 0)), (3, (.int (iN (k : Int)), 0))] [] (zA M Z A) K := by
      intro m
      induction m with
      | zero =>
        intro k e
        have e2 : k = b := (by omega)
        subst e2
        have gr := growsC_rng hh.1 hh.2 s1 s2 v
        refine b_Mod_before_22 (by omega) (r_grownBy (by omega) hV hR s1 s2 (by omega) ?_)
        rw [toI_int, iN_le (by omega) (by omega) (by omega) (by omega)]
        exact ⟨fun _ => r_gives (by omega) hy, fun c => absurd s4 c⟩
      | succ m ih =>
        intro k e
        have gr := growsC_rng hh.1 hh.2 (x := (k : Int)) (by omega) (by omega) v
        refine b_Mod_before_22 (by omega) (r_grownBy (by omega) hV hR (by omega) (by omega) (by omega) ?_)
        have lt := s3 k (by omega) (by omega)
        rw [toI_int, iN_le (by omega) (by omega) (by omega) (by omega), iN_add]
        exact ⟨fun c => absurd c (by omega), fun _ => ih (k + 1) (by omega)⟩
    exact key b 0 (by omega)
  · have := of_decide_eq_false c2; omega
def owD (C : Ch) (w s k : Nat) : Int := growsC (C 0 13) (if inS (C 0 10) s then 0 else w) (C 7 (6 * s + k)) - C 7 (6 * s + k)
theorem line_owD (C : Ch) (w s m : Nat) : lineIn C w s m = lineIn C 0 s m + sumN (owD C w s) m := by
  unfold lineIn
  rw [← sumN_add]
  refine sumN_congr (fun k _ => ?_)
  unfold owD
  have : growsC (C 0 13) (if inS (C 0 10) s then 0 else 0) (C 7 (6 * s + k)) = C 7 (6 * s + k) := by
    rw [show (if inS (C 0 10) s then 0 else 0) = 0 by split <;> rfl]; rfl
  rw [this]
  omega
theorem all_owD (C : Ch) (w : Nat) : allOwC C w = allOwC C 0 + sumN (fun s => sumN (owD C w s) (C 4 s).toNat) (C 0 8).toNat := by
  have : linesIn C w (C 0 8).toNat = linesIn C 0 (C 0 8).toNat + sumN (fun s => sumN (owD C w s) (C 4 s).toNat) (C 0 8).toNat := by
    unfold linesIn
    rw [← sumN_add]
    exact sumN_congr (fun s _ => line_owD C w s _)
  unfold allOwC
  rw [this]
  omega
theorem r_owedIn {l : Launch} {E : EnvT} {d : Nat} {K : AV → Mem → Prop} {M : Mem} {C Z : Ch} {A : Nat → Int} {w : Int} (hd : 8 ≤ d) (hB : Z 0 21 = 0) (hW : WC C) (hR : RR C A 0) (w1 : -2147483648 ≤ w) (w2 : w < 2147483648) (h : K (.int (iN (owInQ C w).1), 0) (zA M (sZ Z (owInQ C w).2) A)) : CT l E d m_Mod_owedIn [(.ref 24, 41), (.int (iN w), 0)] (zA M Z A) K := by
  refine CT.of pn_Mod (Nat.le_of_ble_eq_true rfl) ?_
  have hV := hW.1
  have hnn := hV.n
  unfold owInQ at h
  refine b_Mod_owedIn_0 (by omega) (r_isOwed (by omega) w1 w2 ?_)
  rw [toI_int, b2i_z]
  refine ⟨fun c => r_allOwed (by omega) hB hW hR ?_, fun c => r_refuse (by omega) (by omega) (by omega) ?_⟩
  · rw [Bool.not_eq_false] at c
    rw [c, if_pos rfl] at h
    have t : 0 ≤ w ∧ w ≤ 999 := of_decide_eq_true c
    obtain ⟨v, rfl⟩ : ∃ v : Nat, w = v := ⟨w.toNat, (by omega)⟩
    rw [show ((v : Int)).toNat = v from rfl, all_owD] at h
    obtain ⟨n, hn⟩ : ∃ n : Nat, C 0 8 = n := ⟨(C 0 8).toNat, (by omega)⟩
    rw [hn, show ((n : Int)).toNat = n from rfl] at h
    rw [toI_int]
    have k1 : ∀ s, s ≤ n → G l E d m_Mod_owedIn 20 [(0, (.ref 24, 41)), (1, (.int (iN (v : Int)), 0)), (2, (.int (iN (allOwC C 0 + sumN (fun s => sumN (owD C v s) (C 4 s).toNat) s)), 0)), (3, (.int (iN (s : Int)), 0))] [] (zA M Z A) K := by
      refine dn n ?_ (fun s hs ih => ?_)
      · refine b_Mod_owedIn_20 (by omega) ?_
        simp only [zA_1]
        rw [clA (z := 0) (j := 0 + 0) (by omega) (by omega), hR.1.1, hn]
        exact ⟨inA (by omega) (by omega), fun _ => r_gives (by omega) h, fun c => absurd ((iN_le (by omega) (by omega) (by omega) (by omega)).mpr (by omega)) c⟩
      · refine b_Mod_owedIn_20 (by omega) ?_
        simp only [zA_1]
        rw [clA (z := 0) (j := 0 + 0) (by omega) (by omega), hR.1.1, hn]
        refine ⟨inA (by omega) (by omega), fun c => absurd ((iN_le (by omega) (by omega) (by omega) (by omega)).mp c) (by omega), fun _ => ?_⟩
        have rs := hR.2.1 s (by omega)
        have le := hV.le s (by omega)
        obtain ⟨q, hq⟩ : ∃ q : Nat, C 4 s = q := ⟨(C 4 s).toNat, (by omega)⟩
        have e : sumN (fun s => sumN (owD C v s) (C 4 s).toNat) (s + 1) = sumN (fun s => sumN (owD C v s) (C 4 s).toNat) s + sumN (owD C v s) q := by
          show _ + sumN (owD C v s) (C 4 s).toNat = _
          rw [hq]; rfl
        rw [e] at ih
        have k2 : ∀ k, k ≤ q → G l E d m_Mod_owedIn 33 [(0, (.ref 24, 41)), (1, (.int (iN (v : Int)), 0)), (2, (.int (iN (allOwC C 0 + sumN (fun s => sumN (owD C v s) (C 4 s).toNat) s + sumN (owD C v s) k)), 0)), (3, (.int (iN (s : Int)), 0)), (4, (.int (iN (k : Int)), 0))] [] (zA M Z A) K := by
          refine dn q ?_ (fun k hk ih2 => ?_)
          · refine b_Mod_owedIn_33 (by omega) (c_of (B := 0) (w := 1) (by omega) hB (by omega) (by omega) (by omega) ?_)
            rw [rs.2.1, hq, toI_int, iN_add]
            refine ⟨fun _ => ?_, fun c => absurd ((iN_le (by omega) (by omega) (by omega) (by omega)).mpr (by omega)) c⟩
            rw [Int.add_assoc]
            exact ih
          · refine b_Mod_owedIn_33 (by omega) (c_of (B := 0) (w := 1) (by omega) hB (by omega) (by omega) (by omega) ?_)
            rw [rs.2.1, hq, toI_int]
            refine ⟨fun c => absurd ((iN_le (by omega) (by omega) (by omega) (by omega)).mp c) (by omega), fun _ => c_of (B := 0) (w := 4) (by omega) hB (by omega) (by omega) (by omega) ?_⟩
            rw [rs.2.2.2.2.1, toI_int, b2i_z, iN_add]
            have ex : sumN (owD C v s) (k + 1) = sumN (owD C v s) k + owD C v s k := rfl
            rw [ex] at ih2
            have de := hV.de (6 * s + k) (by omega)
            refine ⟨fun c2 => ?_, fun c2 => c_debtAt (B := 0) (by omega) hB (by omega) (by omega) (by omega) ?_⟩
            · rw [Bool.not_eq_false] at c2
              have z : owD C v s k = 0 := by
                unfold owD
                rw [c2, if_pos rfl]
                show C 7 (6 * s + k) - C 7 (6 * s + k) = 0
                omega
              rw [z, Int.add_zero] at ih2
              exact ih2
            · rw [(hR.2.2.2.1 (6 * s + k) (by omega)).2, toI_int]
              refine r_grownBy (by omega) hV hR (by omega) (by omega) (by omega) (c_debtAt (B := 0) (by omega) hB (by omega) (by omega) (by omega) ?_)
              rw [(hR.2.2.2.1 (6 * s + k) (by omega)).2, toI_int, toI_int, iN_sub, iN_add]
              have z : owD C v s k = growsC (C 0 13) v (C 7 (6 * s + k)) - C 7 (6 * s + k) := by
                unfold owD
                rw [c2]
                rfl
              rw [z] at ih2
              rw [Int.add_assoc (allOwC C 0 + _)]
              exact ih2
        have k20 := k2 0 (by omega)
        rw [show sumN (owD C v s) 0 = 0 from rfl, Int.add_zero] at k20
        exact k20
    have k10 := k1 0 (by omega)
    rw [show sumN (fun s => sumN (owD C v s) (C 4 s).toNat) 0 = 0 from rfl, Int.add_zero] at k10
    exact k10
  · rw [c, if_neg (by simp)] at h; exact h
