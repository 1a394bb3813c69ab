theorem lI_div {a b : Int} (h1 : 0 ≤ a) (h2 : a < 9223372036854775808) (h3 : 0 < b) (h4 : b < 9223372036854775808) : lI a / lI b = lI (a / b) := by
  rw [← Int64.toInt_inj, Int64.toInt_div, lI_small (by omega) h2, lI_small (by omega) h4, tdiv_nn h1]
  have h5 : 0 ≤ a / b := Int.ediv_nonneg h1 (by omega)
  have h6 : a / b ≤ a := Int.ediv_le_self b h1
  rw [lI_small (by omega) (by omega)]
  have h8 : (2 : Nat) ^ 64 = 18446744073709551616 := by decide
  rw [h8]
  exact Int.bmod_eq_of_le (by omega) (by omega)
theorem lI_rem {a b : Int} (h1 : 0 ≤ a) (h2 : a < 9223372036854775808) (h3 : 0 < b) (h4 : b < 9223372036854775808) : lR (lI a) (lI b) = lI (a % b) := by
  unfold lR
  rw [lI_div h1 h2 h3 h4, lI_mul, lI_sub]
  congr 1
  have := Int.emod_add_mul_ediv a b
  rw [Int.mul_comm]
  omega
theorem lI_eq0 {a : Int} (h1 : -9223372036854775808 ≤ a) (h2 : a < 9223372036854775808) : lI a = 0 ↔ a = 0 := by
  rw [← Int64.toInt_inj, lI_small h1 h2]
  rfl
theorem lI_eq {a b : Int} (h1 : -9223372036854775808 ≤ a) (h2 : a < 9223372036854775808) (h3 : -9223372036854775808 ≤ b) (h4 : b < 9223372036854775808) : lI a = lI b ↔ a = b := by
  rw [← Int64.toInt_inj, lI_small h1 h2, lI_small h3 h4]
/-- top and bottom told -/
def tfM (M : Mem) (o u : Nat) : Mem := setR M 0 (upd2 (upd2 (M 0) 0 14 ((o / Nat.gcd o u : Nat) : Int)) 0 15 ((u / Nat.gcd o u : Nat) : Int))
theorem half_mod {b r : Nat} (hr : 0 < r) (h : r < b) : 2 * (b % r) < b := by
  have h1 := Nat.mod_lt b hr
  have h2 := Nat.mod_add_div b r
  have h3 : 1 ≤ b / r := (Nat.one_le_div_iff hr).mpr (by omega)
  have h4 : r ≤ r * (b / r) := Nat.le_mul_of_pos_right r h3
  omega
theorem c_tellFraction {l : Launch} {E : EnvT} {d : Nat} {K : AV → Mem → Prop} {M : Mem} {o u : Nat} (hd : 1 ≤ d) (o2 : o < 1000000000) (u1 : 0 < u) (u2 : u < 1000000000) (h : K (.null, 0) (tfM M o u)) : CT l E d m_FN_tellFraction [(.ref 0, 0), (.long (lI o), 0), (.long (lI u), 0)] M K := by
  refine CT.of pn_FN (Nat.le_of_ble_eq_true rfl) ?_
  refine b_FN_tellFraction_0 (by omega) ?_
  have fin : ∀ a : Nat, 0 < a → a < 1000000000 → a = Nat.gcd o u → ((¬ (lg_cmp (lI (a : Int)) (lI 0)) = 0 → (¬ lI (a : Int) = 0 ∧ ((¬ (lg_cmp (lI (a : Int)) (lI 0)) = 0 → (¬ lI (a : Int) = 0 ∧ K (.null, 0) (upd3 (upd3 M 0 0 14 ((lI (o : Int) / lI (a : Int))).toInt) 0 0 15 ((lI (u : Int) / lI (a : Int))).toInt))) ∧ ((lg_cmp (lI (a : Int)) (lI 0)) = 0 → K (.null, 0) (upd3 (upd3 M 0 0 14 ((lI (o : Int) / lI (a : Int))).toInt) 0 0 15 ((lI 1)).toInt))))) ∧ ((lg_cmp (lI (a : Int)) (lI 0)) = 0 → ((¬ (lg_cmp (lI (a : Int)) (lI 0)) = 0 → (¬ lI (a : Int) = 0 ∧ K (.null, 0) (upd3 (upd3 M 0 0 14 ((lI 0)).toInt) 0 0 15 ((lI (u : Int) / lI (a : Int))).toInt))) ∧ ((lg_cmp (lI (a : Int)) (lI 0)) = 0 → K (.null, 0) (upd3 (upd3 M 0 0 14 ((lI 0)).toInt) 0 0 15 ((lI 1)).toInt))))) := by
    intro a a1 a2 e
    have n0 : ¬ lI (a : Int) = 0 := fun q => by rw [lI_eq0 (by omega) (by omega)] at q; omega
    have n1 : ¬ (lg_cmp (lI (a : Int)) (lI 0)) = 0 := fun q => by rw [lg_cmp_eq, lI_eq (by omega) (by omega) (by omega) (by omega)] at q; omega
    refine ⟨fun _ => ⟨n0, fun _ => ⟨n0, ?_⟩, fun q => absurd q n1⟩, fun q => absurd q n1⟩
    have q1 : 0 ≤ (o : Int) / (a : Int) ∧ (o : Int) / (a : Int) ≤ o := ⟨Int.ediv_nonneg (by omega) (by omega), Int.ediv_le_self _ (by omega)⟩
    have q2 : 0 ≤ (u : Int) / (a : Int) ∧ (u : Int) / (a : Int) ≤ u := ⟨Int.ediv_nonneg (by omega) (by omega), Int.ediv_le_self _ (by omega)⟩
    rw [lI_div (by omega) (by omega) (by omega) (by omega), lI_div (by omega) (by omega) (by omega) (by omega), lI_small (by omega) (by omega), lI_small (by omega) (by omega), upd3_setR, upd3_setR, setR_same, setR_setR]
    unfold tfM at h
    rw [← e] at h
    push_cast at h
    exact h
  have key : ∀ (j t a b : Nat), b < 2 ^ j → t + 2 * j + 1 ≤ 100 → 0 < a → a < 1000000000 → b < 1000000000 → Nat.gcd a b = Nat.gcd o u → G l E d m_FN_tellFraction 9 [(0, (.ref 0, 0)), (1, (.long (lI o), 0)), (3, (.long (lI u), 0)), (5, (.long (lI a), 0)), (7, (.long (lI b), 0)), (9, (.int (iN t), 0))] [] M K := by
    intro j
    induction j with
    | zero =>
      intro t a b hb ht a1 a2 b2 hg
      have b0 : b = 0 := by rw [Nat.pow_zero] at hb; omega
      subst b0
      refine b_FN_tellFraction_9 (by omega) ⟨fun c => absurd ((iN_le (by omega) (by omega) (by omega) (by omega)).mp c) (by omega), fun _ => ⟨fun _ => fin a a1 a2 (by rw [← hg, Nat.gcd_zero_right]), fun c => absurd ((lg_cmp_eq _ _).mpr rfl) c⟩⟩
    | succ j ih =>
      intro t a b hb ht a1 a2 b2 hg
      have hp : 2 ^ (j + 1) = 2 * 2 ^ j := by rw [Nat.pow_succ]; omega
      refine b_FN_tellFraction_9 (by omega) ⟨fun c => absurd ((iN_le (by omega) (by omega) (by omega) (by omega)).mp c) (by omega), fun _ => ?_⟩
      rw [lg_cmp_eq (lI (b : Int)), lI_eq (a := (b : Int)) (by omega) (by omega) (by omega) (by omega), lI_eq0 (a := (b : Int)) (by omega) (by omega)]
      refine ⟨fun c => fin a a1 a2 ?_, fun c => ⟨c, ?_⟩⟩
      · have : b = 0 := (by omega)
        rw [← hg, this, Nat.gcd_zero_right]
      · have bp : 0 < b := (by omega)
        rw [lI_rem (by omega) (by omega) (by omega) (by omega), iN_add]
        have rl := Nat.mod_lt a bp
        have g1 : Nat.gcd b (a % b) = Nat.gcd o u := by rw [← hg, Nat.gcd_comm a b, Nat.gcd_rec b a, Nat.gcd_comm]
        have e1 : (a : Int) % (b : Int) = ((a % b : Nat) : Int) := by push_cast; rfl
        rw [e1]
        generalize a % b = r at rl g1
        have e2 : iN ((t : Int) + 1) = iN ((t + 1 : Nat) : Int) := by push_cast; rfl
        rw [e2]
        refine b_FN_tellFraction_9 (by omega) ⟨fun c => absurd ((iN_le (by omega) (by omega) (by omega) (by omega)).mp c) (by omega), fun _ => ?_⟩
        rw [lg_cmp_eq (lI (r : Int)), lI_eq (a := (r : Int)) (by omega) (by omega) (by omega) (by omega), lI_eq0 (a := (r : Int)) (by omega) (by omega)]
        refine ⟨fun c2 => fin b bp b2 ?_, fun c2 => ⟨c2, ?_⟩⟩
        · have : r = 0 := (by omega)
          rw [← g1, this, Nat.gcd_zero_right]
        · have rp : 0 < r := (by omega)
          rw [lI_rem (by omega) (by omega) (by omega) (by omega), iN_add]
          have hm := half_mod rp rl
          have g2 : Nat.gcd r (b % r) = Nat.gcd o u := by rw [← g1, Nat.gcd_comm b r, Nat.gcd_rec r b, Nat.gcd_comm]
          have e3 : (b : Int) % (r : Int) = ((b % r : Nat) : Int) := by push_cast; rfl
          rw [e3]
          exact ih (t + 1 + 1) r (b % r) (by omega) (by omega) rp (by omega) (by omega) g2
  refine key 30 0 u o ?_ (by omega) u1 u2 (by omega) (Nat.gcd_comm u o)
  have : (2 : Nat) ^ 30 = 1073741824 := by decide
  omega
theorem FC.tf {M : Mem} {rc : Nat} (h : FC M rc) (o u : Nat) : FC (tfM M o u) rc := by
  obtain ⟨h1, h2, h3⟩ := h
  unfold tfM
  refine ⟨?_, h2, ?_⟩
  · rw [setR_same]; simp only [upd2]; simpa using h1
  · rw [setR_ne _ _ (by omega)]; exact h3
def bassC (C : Ch) : Nat → Int := sumN (fun s => ifz (inS (C 0 9) s) (isOwC C s))
theorem bassC_rng {C : Ch} (hV : VB C) : ∀ n, n ≤ 8 → 0 ≤ bassC C n ∧ bassC C n ≤ 60000 * n
  | 0, _ => by simp [bassC, sumN]
  | n + 1, h => by
    have h1 := bassC_rng hV n (by omega)
    have h2 := isOwC_rng hV (s := n) (by omega)
    have e : bassC C (n + 1) = bassC C n + ifz (inS (C 0 9) n) (isOwC C n) := rfl
    rw [e]
    unfold ifz
    split <;> omega
theorem allOwC_rng {C : Ch} (hV : VB C) (w : Nat) : 0 ≤ allOwC C w ∧ allOwC C w ≤ 100000 := by
  have hn := hV.n
  have hw := hV.w
  have hh := hV.hum
  have l1 : ∀ s, s < 8 → ∀ k, k ≤ 6 → 0 ≤ lineIn C w s k ∧ lineIn C w s k ≤ 5994 := by
    intro s hs k hk
    have := sumN_rng (f := fun k => growsC (C 0 13) (if inS (C 0 10) s then 0 else w) (C 7 (6 * s + k))) (lo := 0) (hi := 999) k (fun i hi => by
      have d := hV.de (6 * s + i) (by omega)
      exact growsC_rng hh.1 hh.2 d.1 d.2 _)
    unfold lineIn
    omega
  have l2 := sumN_rng (f := fun s => lineIn C w s (C 4 s).toNat) (lo := 0) (hi := 5994) (C 0 8).toNat (fun s hs => by
    have := hV.le s (by omega)
    exact l1 s (by omega) _ (by omega))
  have l3 := sumN_rng (f := C 11) (lo := 0) (hi := 999) (C 8 3).toNat (fun k hk => hV.wm k (by omega))
  unfold allOwC linesIn
  omega
theorem c_bassQ {l : Launch} {E : EnvT} {d : Nat} {K : AV → Mem → Prop} {M : Mem} {rc : Nat} (hd : 6 ≤ d) (hF : FC M rc) (hn : allOwC (M rc) 0 = 0 → K (.int (iN 0), 0) (stM M 6)) (hy : allOwC (M rc) 0 ≠ 0 → K (.int (iN 1), 0) (stM (tfM M (bassC (M rc) (M rc 0 8).toNat).toNat (allOwC (M rc) 0).toNat) 0)) : CT l E d m_FN_bass [(.ref 0, 0)] M K := by
  refine CT.of pn_FN (Nat.le_of_ble_eq_true rfl) ?_
  have cl := hF.cl
  have hV := hF.2.2
  have hnn := hV.n
  have m9 := hV.ms 9 (by omega) (by omega)
  have ar := allOwC_rng hV 0
  refine b_FN_bass_0 (by omega) ?_
  rw [hF.eq]
  refine ⟨cl, c_allOwed (by omega) hV ?_⟩
  rw [toI_int, iN_eq0 (by omega) (by omega)]
  refine ⟨fun c => ?_, fun c => c_deny (by omega) (by omega) (by omega) ⟨z01, hn c⟩⟩
  have hy := hy c
  obtain ⟨n, hnn2⟩ : ∃ n : Nat, M rc 0 8 = n := ⟨(M rc 0 8).toNat, (by omega)⟩
  rw [hnn2, show ((n : Int)).toNat = n from rfl] at hy
  have br := bassC_rng hV n (by omega)
  obtain ⟨A, hA⟩ : ∃ A : Nat, allOwC (M rc) 0 = A := ⟨(allOwC (M rc) 0).toNat, (by omega)⟩
  rw [hA] at hy c ar
  rw [show ((A : Int)).toNat = A from rfl] at hy
  have key : ∀ k, k ≤ n → G l E d m_FN_bass 23 [(0, (.ref 0, 0)), (1, (.int (iN (A : Int)), 0)), (2, (.int (iN (bassC (M rc) k)), 0)), (3, (.int (iN k), 0))] [] M K := by
    refine dn n ?_ (fun k hk ih => ?_)
    · refine b_FN_bass_23 (by omega) ?_
      rw [hF.eq, hnn2]
      refine ⟨cl, fun _ => ?_, fun c => absurd ((iN_le (by omega) (by omega) (by omega) (by omega)).mpr (by omega)) c⟩
      obtain ⟨B, hB⟩ : ∃ B : Nat, bassC (M rc) n = B := ⟨(bassC (M rc) n).toNat, (by omega)⟩
      rw [hB, show ((B : Int)).toNat = B from rfl] at hy
      rw [hB, iN_toL (by omega) (by omega), iN_toL (by omega) (by omega)]
      exact c_tellFraction (by omega) (by omega) (by omega) (by omega) (c_agree (by omega) ⟨o01, hy⟩)
    · refine b_FN_bass_23 (by omega) ?_
      rw [hF.eq, hnn2]
      refine ⟨cl, fun c => absurd ((iN_le (by omega) (by omega) (by omega) (by omega)).mp c) (by omega), fun _ => ⟨cl, c_isIn (by omega) m9.1 m9.2 (by omega) ?_⟩⟩
      rw [toI_int, b2i_z, iN_add, hF.eq]
      have e : bassC (M rc) (k + 1) = bassC (M rc) k + ifz (inS (M rc 0 9) k) (isOwC (M rc) k) := rfl
      have e2 : iN ((k : Int) + 1) = iN ((k + 1 : Nat) : Int) := by push_cast; rfl
      rw [e] at ih
      refine ⟨fun c => ?_, fun c => ⟨cl, c_isOwedInAll (by omega) hV (by omega) ?_⟩⟩
      · rw [c] at ih
        have e3 : bassC (M rc) k + ifz false (isOwC (M rc) k) = bassC (M rc) k := by simp [ifz]
        rw [e3] at ih
        rw [e2]
        exact ih
      · rw [Bool.not_eq_false] at c
        rw [c] at ih
        rw [toI_int, iN_add, e2]
        exact ih
  rw [hA]
  exact key 0 (by omega)
theorem c_liveQ {l : Launch} {E : EnvT} {d : Nat} {K : AV → Mem → Prop} {M : Mem} {rc ry : Nat} {sd : Int} (hd : 8 ≤ d) (hF : FC M rc) (hG : FY M ry) (hY : YV (M ry)) (hT : ∀ i : Nat, (i : Int) < M ry 0 6 → YT (M ry) i) (hL : ∀ i, i < 60 → -1 ≤ M 13 1 i ∧ M 13 1 i ≤ 9999) (s1 : -2147483648 ≤ sd) (s2 : sd < 2147483648) (hn : ¬ (0 ≤ sd ∧ sd ≤ 9999) → K (.int (iN (-1)), 0) (stM M 1)) (h6 : 0 ≤ sd → sd ≤ 9999 → M ry 0 8 = 0 → K (.int (iN (-1)), 0) (stM M 6)) (hy : 0 ≤ sd → sd ≤ 9999 → M ry 0 8 = 1 → K (.int (iN ((runC (M ry) (M 13) (M rc) sd).1 0 2)), 0) (stM (setR (setR M 13 (runC (M ry) (M 13) (M rc) sd).1) rc (runC (M ry) (M 13) (M rc) sd).2) 0)) : CT l E d m_FN_live [(.ref 0, 0), (.int (iN sd), 0)] M K := by
  refine CT.of pn_FN (Nat.le_of_ble_eq_true rfl) ?_
  have cl := hF.cl
  have hrc := hF.2.1
  have hry := hG.2.1
  have b8 := hG.2.2.2.2
  refine b_FN_live_0 (by omega) ?_
  rw [hF.eq, hG.eq, iN_lt0 s1 s2, iN_le s1 s2 (by omega) (by omega), iN_eq0 (a := M ry 0 8) (by omega) (by omega)]
  refine ⟨fun c => c_refuse (by omega) (by omega) (by omega) (hn (by omega)), fun c => ⟨fun c2 => ⟨hG.cl, fun c3 => ⟨hG.cl, cl, ?_⟩, fun c3 => c_refuse (by omega) (by omega) (by omega) (h6 (by omega) (by omega) c3)⟩, fun c2 => c_refuse (by omega) (by omega) (by omega) (hn (by omega))⟩⟩
  have hy := hy (by omega) (by omega) (by omega)
  have e : M = setR (setR M 13 (M 13)) rc (M rc) := by rw [setR_self, setR_self]
  have goal : CT l E (d - 1) m_Life_run [(.ref 13, 37), (.ref ry, 23), (.ref rc, 11), (.int (iN sd), 0)] (setR (setR M 13 (M 13)) rc (M rc)) (fun v2 M2 => CT l E (d - 1) m_FN_answer [(.ref 0, 0), (.int (iN (M2 13 0 2)), 0)] M2 (fun v3 M3 => K (.int (toI v3), 0) M3)) := by
    refine c_run (by omega) (by omega) (by omega) (by omega) hF.2.2 hY hG.2.2 hT hL (by omega) (by omega) (c_answer (by omega) ?_)
    rw [mm_r _ _ _ (by omega)]
    exact hy
  rw [← e] at goal
  exact goal
def mnF (Y C : Ch) (sd : Int) : Nat → Nat → Ch → Ch → Int → Ch × Ch × Int
  | 0, _, L, D, x => (L, D, x)
  | m + 1, i, L, _, x => mnF Y C sd m (i + 1) (runC Y L C (sd + i)).1 (runC Y L C (sd + i)).2 (x + allOwC (runC Y L C (sd + i)).2 0)
theorem run_inv {Y L C : Ch} {sd : Int} (hY : YV Y) (hB : YB Y) (hT : ∀ i : Nat, (i : Int) < Y 0 6 → YT Y i) (hL : ∀ i, i < 60 → -1 ≤ L 1 i ∧ L 1 i ≤ 9999) (hV : VB C) (s1 : 0 ≤ sd) (s2 : sd < 65536) : (∀ i, i < 60 → -1 ≤ (runC Y L C sd).1 1 i ∧ (runC Y L C sd).1 1 i ≤ 9999) ∧ VB (runC Y L C sd).2 := by
  have q := runF_inv hY hB hT 1000000 0 (runC0 L sd) C (by omega) (LI_run0 hL s1 s2) hV
  unfold runC
  refine ⟨?_, q.2⟩
  have e : ∀ (Z : Ch) (v : Int), upd2 Z 0 5 v 1 = Z 1 := fun Z v => upd2_c _ _ (by decide)
  simp only [e]
  exact q.1.2.2.2
theorem c_meanQ {l : Launch} {E : EnvT} {d : Nat} {K : AV → Mem → Prop} {M : Mem} {rc ry : Nat} {sd n : Int} (hd : 9 ≤ d) (hF : FC M rc) (hG : FY M ry) (hY : YV (M ry)) (hT : ∀ i : Nat, (i : Int) < M ry 0 6 → YT (M ry) i) (hL : ∀ i, i < 60 → -1 ≤ M 14 1 i ∧ M 14 1 i ≤ 9999) (s1 : -2147483648 ≤ sd) (s2 : sd < 2147483648) (n1 : -2147483648 ≤ n) (n2 : n < 2147483648) (hn : ¬ (0 ≤ sd ∧ sd ≤ 9999 ∧ 1 ≤ n ∧ n ≤ 20 ∧ sd + n - 1 ≤ 9999) → K (.int (iN 0), 0) (stM M 1)) (h6 : 0 ≤ sd → sd ≤ 9999 → 1 ≤ n → n ≤ 20 → sd + n - 1 ≤ 9999 → M ry 0 8 = 0 → K (.int (iN 0), 0) (stM M 6)) (hy : 0 ≤ sd → sd ≤ 9999 → 1 ≤ n → n ≤ 20 → sd + n - 1 ≤ 9999 → M ry 0 8 = 1 → (∀ i, i < 60 → -1 ≤ (mnF (M ry) (M rc) sd n.toNat 0 (M 14) (M 15) 0).1 1 i ∧ (mnF (M ry) (M rc) sd n.toNat 0 (M 14) (M 15) 0).1 1 i ≤ 9999) → K (.int (iN 1), 0) (stM (tfM (setR (setR M 14 (mnF (M ry) (M rc) sd n.toNat 0 (M 14) (M 15) 0).1) 15 (mnF (M ry) (M rc) sd n.toNat 0 (M 14) (M 15) 0).2.1) (mnF (M ry) (M rc) sd n.toNat 0 (M 14) (M 15) 0).2.2.toNat n.toNat) 0)) : CT l E d m_FN_mean [(.ref 0, 0), (.int (iN sd), 0), (.int (iN n), 0)] M K := by
  refine CT.of pn_FN (Nat.le_of_ble_eq_true rfl) ?_
  have cl := hF.cl
  have hV := hF.2.2
  have hrc := hF.2.1
  have hry := hG.2.1
  have b8 := hG.2.2.2.2
  refine b_FN_mean_0 (by omega) ?_
  rw [hG.eq, iN_lt0 s1 s2, iN_lt (by omega) (by omega) s1 s2, iN_lt n1 n2 (by omega) (by omega), iN_lt (by omega) (by omega) n1 n2, iN_eq0 (a := M ry 0 8) (by omega) (by omega)]
  refine ⟨fun c => c_deny (by omega) (by omega) (by omega) ⟨z01, hn (by omega)⟩, fun c => ⟨fun c2 => c_deny (by omega) (by omega) (by omega) ⟨z01, hn (by omega)⟩, fun c2 => ⟨fun c3 => c_deny (by omega) (by omega) (by omega) ⟨z01, hn (by omega)⟩, fun c3 => ⟨fun c4 => c_deny (by omega) (by omega) (by omega) ⟨z01, hn (by omega)⟩, fun c4 => ?_⟩⟩⟩⟩
  rw [iN_add, iN_sub, iN_le (by omega) (by omega) (by omega) (by omega)]
  refine ⟨fun c5 => ⟨hG.cl, fun c6 => ?_, fun c6 => c_deny (by omega) (by omega) (by omega) ⟨z01, h6 (by omega) (by omega) (by omega) (by omega) (by omega) c6⟩⟩, fun c5 => c_deny (by omega) (by omega) (by omega) ⟨z01, hn (by omega)⟩⟩
  have hy := hy (by omega) (by omega) (by omega) (by omega) (by omega) (by omega)
  obtain ⟨N, rfl⟩ : ∃ N : Nat, n = N := ⟨n.toNat, (by omega)⟩
  rw [show ((N : Int)).toNat = N from rfl] at hy
  have key : ∀ (m i : Nat) (L D : Ch) (x : Int), i + m = N → (∀ i, i < 60 → -1 ≤ L 1 i ∧ L 1 i ≤ 9999) → 0 ≤ x → x ≤ 100000 * i → mnF (M ry) (M rc) sd N 0 (M 14) (M 15) 0 = mnF (M ry) (M rc) sd m i L D x → G l E d m_FN_mean 61 [(0, (.ref 0, 0)), (1, (.int (iN sd), 0)), (2, (.int (iN (N : Int)), 0)), (3, (.long (lI x), 0)), (5, (.int (iN i), 0))] [] (setR (setR M 14 L) 15 D) K := by
    intro m
    induction m with
    | zero =>
      intro i L D x hi hL' x1 x2 he
      have he : _ = (L, D, x) := he
      rw [he] at hy
      refine b_FN_mean_61 (by omega) ⟨fun _ => ?_, fun c => absurd ((iN_le (by omega) (by omega) (by omega) (by omega)).mpr (by omega)) c⟩
      obtain ⟨X, hX⟩ : ∃ X : Nat, x = X := ⟨x.toNat, (by omega)⟩
      rw [hX, iN_toL (by omega) (by omega)]
      rw [hX] at hy
      exact c_tellFraction (by omega) (by omega) (by omega) (by omega) (c_agree (by omega) ⟨o01, hy hL'⟩)
    | succ m ih =>
      intro i L D x hi hL' x1 x2 he
      have he : _ = mnF (M ry) (M rc) sd m (i + 1) (runC (M ry) L (M rc) (sd + i)).1 (runC (M ry) L (M rc) (sd + i)).2 (x + allOwC (runC (M ry) L (M rc) (sd + i)).2 0) := he
      have q := run_inv (sd := sd + i) hY hG.2.2 hT hL' hV (by omega) (by omega)
      have ar := allOwC_rng q.2 0
      refine b_FN_mean_61 (by omega) ⟨fun c => absurd ((iN_le (by omega) (by omega) (by omega) (by omega)).mp c) (by omega), fun _ => ?_⟩
      rw [mm_o _ _ _ (by omega) (by omega), hF.eq]
      refine ⟨cl, c_chTake (by omega) (by decide) (by omega) (by rw [mm_o _ _ _ (by omega) (by omega)]; exact hV) ?_⟩
      rw [mm_o _ _ _ (by omega) (by omega), setR_setR, mm_o _ _ _ (by omega) (by omega), setR_ne M L (show (0 : Nat) ≠ 14 by decide), hG.eq, iN_add]
      refine ⟨hG.cl, c_run (by omega) (by omega) (by omega) (by omega) hV hY hG.2.2 hT hL' (by omega) (by omega) ?_⟩
      refine c_allOwed (by omega) (by rw [setR_same]; exact q.2) ?_
      rw [setR_same, toI_int, iN_toL (by omega) (by omega), lI_add, iN_add]
      exact ih (i + 1) _ _ _ (by omega) q.1 (by omega) (by push_cast; omega) he
  have k0 := key N 0 (M 14) (M 15) 0 (by omega) hL (by omega) (by omega) rfl
  rw [setR_self, setR_self] at k0
  exact k0
