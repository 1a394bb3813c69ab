theorem sumN_rng {f : Nat → Int} {lo hi : Int} : ∀ n : Nat, (∀ k, k < n → lo ≤ f k ∧ f k ≤ hi) → n * lo ≤ sumN f n ∧ sumN f n ≤ n * hi
  | 0, _ => by simp [sumN]
  | n + 1, h => by
    have h1 := sumN_rng n (fun k hk => h k (by omega))
    have h2 := h n (by omega)
    simp only [sumN]
    push_cast
    rw [Int.add_mul, Int.add_mul]
    omega
theorem cntN_rng (p : Nat → Bool) : ∀ n : Nat, 0 ≤ cntN p n ∧ cntN p n ≤ n
  | 0 => by simp [cntN]
  | n + 1 => by
    have h1 := cntN_rng p n
    have := b2i_lo (p n)
    have := b2i_hi (p n)
    simp only [cntN]
    omega
def ifz (c : Bool) (v : Int) : Int := if c then v else 0
theorem ifz_rng {c : Bool} {v : Int} (h1 : 0 ≤ v) (h2 : v ≤ 999) : 0 ≤ ifz c v ∧ ifz c v ≤ 999 := by
  unfold ifz; split <;> omega
def owesC (C : Ch) (x : Int) : Int := sumN (fun i => ifz (C 6 i == x) (C 7 i)) 48 + sumN (fun k => ifz (C 9 k == x) (C 11 k)) (C 8 3).toNat
def isOwC (C : Ch) (s : Nat) : Int := sumN (fun k => C 7 (6 * s + k)) (C 4 s).toNat + sumN (fun k => ifz (C 10 k == s) (C 11 k)) (C 8 3).toNat
theorem s48_rng {C : Ch} (hV : VB C) (x : Int) {n : Nat} (hn : n ≤ 48) : 0 ≤ sumN (fun i => ifz (C 6 i == x) (C 7 i)) n ∧ sumN (fun i => ifz (C 6 i == x) (C 7 i)) n ≤ 47952 := by
  have := sumN_rng (f := fun i => ifz (C 6 i == x) (C 7 i)) (lo := 0) (hi := 999) n (fun k hk => ifz_rng (hV.de k (by omega)).1 (hV.de k (by omega)).2)
  omega
theorem sw_rng {C : Ch} (hV : VB C) (j : Nat) (x : Int) {n : Nat} (hn : n ≤ 8) : 0 ≤ sumN (fun k => ifz (C j k == x) (C 11 k)) n ∧ sumN (fun k => ifz (C j k == x) (C 11 k)) n ≤ 7992 := by
  have := sumN_rng (f := fun k => ifz (C j k == x) (C 11 k)) (lo := 0) (hi := 999) n (fun k hk => ifz_rng (hV.wm k (by omega)).1 (hV.wm k (by omega)).2)
  omega
theorem owesC_rng {C : Ch} (hV : VB C) (x : Int) : 0 ≤ owesC C x ∧ owesC C x ≤ 60000 := by
  have hw := hV.w
  have h1 := s48_rng hV x (n := 48) (by omega)
  have h2 := sw_rng hV 9 x (n := (C 8 3).toNat) (by omega)
  unfold owesC
  omega
theorem sl_rng {C : Ch} (hV : VB C) {s n : Nat} (hs : s < 8) (hn : n ≤ 6) : 0 ≤ sumN (fun k => C 7 (6 * s + k)) n ∧ sumN (fun k => C 7 (6 * s + k)) n ≤ 5994 := by
  have := sumN_rng (f := fun k => C 7 (6 * s + k)) (lo := 0) (hi := 999) n (fun k hk => hV.de (6 * s + k) (by omega))
  omega
theorem isOwC_rng {C : Ch} (hV : VB C) {s : Nat} (hs : s < 8) : 0 ≤ isOwC C s ∧ isOwC C s ≤ 60000 := by
  have hw := hV.w
  have hl := hV.le s hs
  have h1 := sl_rng hV (s := s) (n := (C 4 s).toNat) hs (by omega)
  have h2 := sw_rng hV 10 s (n := (C 8 3).toNat) (by omega)
  unfold isOwC
  omega
theorem c_owesInAll {l : Launch} {E : EnvT} {d : Nat} {K : AV → Mem → Prop} {M : Mem} {r : Nat} {x : Int} (hd : 1 ≤ d) (hV : VB (M r)) (hx1 : -1 ≤ x) (hx2 : x < 100) (h : K (.int (iN (owesC (M r) x)), 0) M) : CT l E d m_Choir_owesInAll [(.ref r, 11), (.int (iN x), 0)] M K := by
  refine CT.of pn_Choir (Nat.le_of_ble_eq_true rfl) ?_
  refine b_Choir_owesInAll_0 hd ?_
  have hw := hV.w
  obtain ⟨n, hn⟩ : ∃ n : Nat, M r 8 3 = n := ⟨(M r 8 3).toNat, (by omega)⟩
  unfold owesC at h
  rw [hn] at h
  have k2 : ∀ k, k ≤ n → G l E d m_Choir_owesInAll 37 [(0, (.ref r, 11)), (1, (.int (iN x), 0)), (2, (.int (iN (sumN (fun i => ifz (M r 6 i == x) (M r 7 i)) 48 + sumN (fun k => ifz (M r 9 k == x) (M r 11 k)) k)), 0)), (3, (.int (iN k), 0))] [] M K := by
    refine dn n ?_ (fun k hk ih => ?_)
    · refine b_Choir_owesInAll_37 hd ?_
      rw [hn]
      exact ⟨fun _ => h, fun c => absurd ((iN_le (by omega) (by omega) (by omega) (by omega)).mpr (by omega)) c⟩
    · refine b_Choir_owesInAll_37 hd ?_
      have ha := hV.wa k (by omega)
      rw [hn]
      simp (disch := omega) only [true_or, or_true, true_and, iN_lt, iN_le, iN_eq, iN_lt0, iN_le0, iN_0le, iN_0lt, iN_eq0, iN_eq1, iN_add, iN_sub, iN_mul, iN_neg, iN_clN, toI_int]
      refine ⟨fun c => absurd c (by omega), fun _ => ⟨iN_in (by omega) (by omega) (by omega), fun c => ?_, fun c => ⟨iN_in (by omega) (by omega) (by omega), ?_⟩⟩⟩
      · simpa [sumN, ifz, c] using ih
      · simpa [sumN, ifz, c, Int.add_assoc] using ih
  have k1 : ∀ k, k ≤ 48 → G l E d m_Choir_owesInAll 4 [(0, (.ref r, 11)), (1, (.int (iN x), 0)), (2, (.int (iN (sumN (fun i => ifz (M r 6 i == x) (M r 7 i)) k)), 0)), (3, (.int (iN k), 0))] [] M K := by
    refine dn 48 ?_ (fun k hk ih => ?_)
    · refine b_Choir_owesInAll_4 hd ⟨fun _ => ?_, fun c => absurd ((iN_le (by omega) (by omega) (by omega) (by omega)).mpr (by omega)) c⟩
      have := k2 0 (by omega)
      simpa [sumN] using this
    · refine b_Choir_owesInAll_4 hd ?_
      have ha := hV.ho k (by omega)
      simp (disch := omega) only [true_or, or_true, true_and, iN_lt, iN_le, iN_eq, iN_lt0, iN_le0, iN_0le, iN_0lt, iN_eq0, iN_eq1, iN_add, iN_sub, iN_mul, iN_neg, iN_clN, toI_int]
      refine ⟨fun c => absurd c (by omega), fun _ => ⟨iN_in (by omega) (by omega) (by omega), fun c => ?_, fun c => ⟨iN_in (by omega) (by omega) (by omega), ?_⟩⟩⟩
      · simpa [sumN, ifz, c] using ih
      · simpa [sumN, ifz, c] using ih
  exact k1 0 (by omega)
theorem c_isOwedInAll {l : Launch} {E : EnvT} {d : Nat} {K : AV → Mem → Prop} {M : Mem} {r : Nat} {s : Nat} (hd : 2 ≤ d) (hV : VB (M r)) (hs : s < 8) (h : K (.int (iN (isOwC (M r) s)), 0) M) : CT l E d m_Choir_isOwedInAll [(.ref r, 11), (.int (iN s), 0)] M K := by
  refine CT.of pn_Choir (Nat.le_of_ble_eq_true rfl) ?_
  refine b_Choir_isOwedInAll_0 (by omega) ?_
  have hw := hV.w
  have hl := hV.le s hs
  obtain ⟨n, hn⟩ : ∃ n : Nat, M r 8 3 = n := ⟨(M r 8 3).toNat, (by omega)⟩
  obtain ⟨q, hq⟩ : ∃ q : Nat, M r 4 s = q := ⟨(M r 4 s).toNat, (by omega)⟩
  unfold isOwC at h
  rw [hn, hq] at h
  have k2 : ∀ k, k ≤ n → G l E d m_Choir_isOwedInAll 35 [(0, (.ref r, 11)), (1, (.int (iN s), 0)), (2, (.int (iN (sumN (fun k => M r 7 (6 * s + k)) q + sumN (fun k => ifz (M r 10 k == s) (M r 11 k)) k)), 0)), (3, (.int (iN k), 0))] [] M K := by
    refine dn n ?_ (fun k hk ih => ?_)
    · refine b_Choir_isOwedInAll_35 (by omega) ?_
      rw [hn]
      exact ⟨fun _ => h, fun c => absurd ((iN_le (by omega) (by omega) (by omega) (by omega)).mpr (by omega)) c⟩
    · refine b_Choir_isOwedInAll_35 (by omega) ?_
      have ha := hV.wb k (by omega)
      rw [hn]
      simp (disch := omega) only [true_or, or_true, true_and, iN_lt, iN_le, iN_eq, iN_lt0, iN_le0, iN_0le, iN_0lt, iN_eq0, iN_eq1, iN_add, iN_sub, iN_mul, iN_neg, iN_clN, toI_int]
      refine ⟨fun c => absurd c (by omega), fun _ => ⟨iN_in (by omega) (by omega) (by omega), fun c => ?_, fun c => ⟨iN_in (by omega) (by omega) (by omega), ?_⟩⟩⟩
      · simpa [sumN, ifz, c] using ih
      · simpa [sumN, ifz, c, Int.add_assoc] using ih
  have k1 : ∀ k, k ≤ q → G l E d m_Choir_isOwedInAll 4 [(0, (.ref r, 11)), (1, (.int (iN s), 0)), (2, (.int (iN (sumN (fun k => M r 7 (6 * s + k)) k)), 0)), (3, (.int (iN k), 0))] [] M K := by
    refine dn q ?_ (fun k hk ih => ?_)
    · refine b_Choir_isOwedInAll_4 (by omega) ?_
      simp (disch := omega) only [true_or, or_true, true_and, iN_lt, iN_le, iN_eq, iN_lt0, iN_le0, iN_0le, iN_0lt, iN_eq0, iN_eq1, iN_add, iN_sub, iN_mul, iN_neg, iN_clN, toI_int, hq]
      refine ⟨iN_in (by omega) (by omega) (by omega), fun _ => ?_, fun c => absurd (by omega) c⟩
      have := k2 0 (by omega)
      simpa [sumN] using this
    · refine b_Choir_isOwedInAll_4 (by omega) ?_
      simp (disch := omega) only [true_or, or_true, true_and, iN_lt, iN_le, iN_eq, iN_lt0, iN_le0, iN_0le, iN_0lt, iN_eq0, iN_eq1, iN_add, iN_sub, iN_mul, iN_neg, iN_clN, toI_int, hq]
      refine ⟨iN_in (by omega) (by omega) (by omega), fun c => absurd c (by omega), fun _ => c_slot (by omega) ?_⟩
      rw [show (s : Int) * 6 + k = ((6 * s + k : Nat) : Int) by push_cast; omega]
      simp (disch := omega) only [true_or, or_true, true_and, iN_lt, iN_le, iN_eq, iN_lt0, iN_le0, iN_0le, iN_0lt, iN_eq0, iN_eq1, iN_add, iN_sub, iN_mul, iN_neg, iN_clN, toI_int]
      refine ⟨iN_in (by omega) (by omega) (by omega), ?_⟩
      simpa [sumN] using ih
  exact k1 0 (by omega)
def balC (C : Ch) (s : Nat) : Int := isOwC C s - owesC C s
theorem c_balanceOf {l : Launch} {E : EnvT} {d : Nat} {K : AV → Mem → Prop} {M : Mem} {r : Nat} {s : Nat} (hd : 3 ≤ d) (hV : VB (M r)) (hs : s < 8) (h : K (.int (iN (balC (M r) s)), 0) M) : CT l E d m_Choir_balanceOf [(.ref r, 11), (.int (iN s), 0)] M K := by
  refine CT.of pn_Choir (Nat.le_of_ble_eq_true rfl) ?_
  refine b_Choir_balanceOf_0 (by omega) (c_isOwedInAll (by omega) hV hs (c_owesInAll (by omega) hV (by omega) (by omega) ?_))
  rw [toI_int, toI_int, iN_sub]
  exact h
def lackC (C : Ch) (s : Nat) : Int := max 0 (-(C 2 s + balC C s))
theorem balC_rng {C : Ch} (hV : VB C) {s : Nat} (hs : s < 8) : -60000 ≤ balC C s ∧ balC C s ≤ 60000 := by
  have h1 := isOwC_rng hV hs
  have h2 := owesC_rng hV s
  unfold balC
  omega
theorem c_lacks {l : Launch} {E : EnvT} {d : Nat} {K : AV → Mem → Prop} {M : Mem} {r : Nat} {s : Nat} (hd : 4 ≤ d) (hV : VB (M r)) (hs : s < 8) (h : K (.int (iN (lackC (M r) s)), 0) M) : CT l E d m_Choir_lacks [(.ref r, 11), (.int (iN s), 0)] M K := by
  refine CT.of pn_Choir (Nat.le_of_ble_eq_true rfl) ?_
  have h1 := balC_rng hV hs
  have h2 := hV.pu s hs
  refine b_Choir_lacks_0 (by omega) ⟨iN_in (by omega) (by omega) (by omega), c_balanceOf (by omega) hV hs ?_⟩
  rw [iN_clN (by omega), toI_int, iN_add, iN_neg]
  refine c_max (by omega) (by omega) (by omega) (by omega) (by omega) ?_
  exact h
theorem c_debtsAtNotes {l : Launch} {E : EnvT} {d : Nat} {K : AV → Mem → Prop} {M : Mem} {r : Nat} (hd : 1 ≤ d) (hV : VB (M r)) (h : K (.int (iN (cntN (fun i => decide (0 < M r 7 i)) 48)), 0) M) : CT l E d m_Choir_debtsAtNotes [(.ref r, 11)] M K := by
  refine CT.of pn_Choir (Nat.le_of_ble_eq_true rfl) ?_
  refine b_Choir_debtsAtNotes_0 hd ?_
  have k1 : ∀ k, k ≤ 48 → G l E d m_Choir_debtsAtNotes 4 [(0, (.ref r, 11)), (1, (.int (iN (cntN (fun i => decide (0 < M r 7 i)) k)), 0)), (2, (.int (iN k), 0))] [] M K := by
    refine dn 48 ?_ (fun k hk ih => ?_)
    · exact b_Choir_debtsAtNotes_4 hd ⟨fun _ => h, fun c => absurd ((iN_le (by omega) (by omega) (by omega) (by omega)).mpr (by omega)) c⟩
    · refine b_Choir_debtsAtNotes_4 hd ?_
      have ha := hV.de k (by omega)
      simp (disch := omega) only [true_or, or_true, true_and, iN_lt, iN_le, iN_eq, iN_lt0, iN_le0, iN_0le, iN_0lt, iN_eq0, iN_eq1, iN_add, iN_sub, iN_mul, iN_neg, iN_clN, toI_int]
      refine ⟨fun c => absurd c (by omega), fun _ => ⟨iN_in (by omega) (by omega) (by omega), fun c => ?_, fun c => ?_⟩⟩
      · have e : decide (0 < M r 7 k) = false := decide_eq_false (by omega)
        simpa [cntN, b2i, e] using ih
      · have e : decide (0 < M r 7 k) = true := decide_eq_true (by omega)
        simp only [cntN, e, b2i, if_true] at ih
        exact ih
  exact k1 0 (by omega)
theorem c_allCoins {l : Launch} {E : EnvT} {d : Nat} {K : AV → Mem → Prop} {M : Mem} {r : Nat} (hd : 1 ≤ d) (hV : VB (M r)) (h : K (.int (iN (sumN (M r 2) (M r 0 8).toNat)), 0) M) : CT l E d m_Choir_allCoins [(.ref r, 11)] M K := by
  refine CT.of pn_Choir (Nat.le_of_ble_eq_true rfl) ?_
  refine b_Choir_allCoins_0 hd ?_
  have hw := hV.n
  obtain ⟨n, hn⟩ : ∃ n : Nat, M r 0 8 = n := ⟨(M r 0 8).toNat, (by omega)⟩
  rw [hn] at h
  have k1 : ∀ k, k ≤ n → G l E d m_Choir_allCoins 4 [(0, (.ref r, 11)), (1, (.int (iN (sumN (M r 2) k)), 0)), (2, (.int (iN k), 0))] [] M K := by
    refine dn n ?_ (fun k hk ih => ?_)
    · refine b_Choir_allCoins_4 hd ?_
      rw [hn]
      exact ⟨fun _ => h, fun c => absurd ((iN_le (by omega) (by omega) (by omega) (by omega)).mpr (by omega)) c⟩
    · refine b_Choir_allCoins_4 hd ?_
      rw [hn]
      simp (disch := omega) only [true_or, or_true, true_and, iN_lt, iN_le, iN_eq, iN_lt0, iN_le0, iN_0le, iN_0lt, iN_eq0, iN_eq1, iN_add, iN_sub, iN_mul, iN_neg, iN_clN, toI_int]
      refine ⟨fun c => absurd c (by omega), fun _ => ⟨iN_in (by omega) (by omega) (by omega), ?_⟩⟩
      simpa [sumN] using ih
  exact k1 0 (by omega)
def grownC (h : Int) (x : Int) : Int := if x = 0 ∨ h = 0 then x else min 999 (x + max 1 (x * h / 100))
theorem grownC_rng {h x : Int} (h1 : 0 ≤ h) (h2 : h ≤ 50) (h3 : 0 ≤ x) (h4 : x ≤ 999) : 0 ≤ grownC h x ∧ grownC h x ≤ 999 := by
  unfold grownC
  split <;> omega
theorem mul_rng {x h : Int} (h1 : 0 ≤ h) (h2 : h ≤ 50) (h3 : 0 ≤ x) (h4 : x ≤ 999) : 0 ≤ x * h ∧ x * h ≤ 49950 := by
  refine ⟨Int.mul_nonneg h3 h1, ?_⟩
  have := Int.mul_le_mul h4 h2 h1 (by omega : (0 : Int) ≤ 999)
  omega
theorem c_grown {l : Launch} {E : EnvT} {d : Nat} {K : AV → Mem → Prop} {M : Mem} {r : Nat} {x : Int} (hd : 2 ≤ d) (hV : VB (M r)) (h1 : 0 ≤ x) (h2 : x ≤ 999) (h : K (.int (iN (grownC (M r 0 13) x)), 0) M) : CT l E d m_Choir_grown [(.ref r, 11), (.int (iN x), 0)] M K := by
  refine CT.of pn_Choir (Nat.le_of_ble_eq_true rfl) ?_
  have hh := hV.hum
  have hm := mul_rng hh.1 hh.2 h1 h2
  refine b_Choir_grown_0 (by omega) ?_
  unfold grownC at h
  rw [iN_eq0 (by omega) (by omega), iN_eq0 (by omega) (by omega), iN_mul, iN_div (by omega) (by omega) (by omega) (by omega)]
  refine ⟨fun c => ?_, fun c => ⟨fun c2 => ⟨by decide +kernel, c_max (by omega) (by omega) (by omega) (by omega) (by omega) ?_⟩, fun c2 => ?_⟩⟩
  · rw [if_pos (Or.inl c)] at h; exact h
  · rw [if_neg (by omega)] at h
    rw [toI_int, iN_add]
    exact c_min (by omega) (by omega) (by omega) (by omega) (by omega) h
  · rw [if_pos (Or.inr c2)] at h; exact h
def growsC (h : Int) : Nat → Int → Int
  | 0, x => x
  | n + 1, x => grownC h (growsC h n x)
theorem growsC_rng {h x : Int} (h1 : 0 ≤ h) (h2 : h ≤ 50) (h3 : 0 ≤ x) (h4 : x ≤ 999) : ∀ n, 0 ≤ growsC h n x ∧ growsC h n x ≤ 999
  | 0 => ⟨h3, h4⟩
  | n + 1 => grownC_rng h1 h2 (growsC_rng h1 h2 h3 h4 n).1 (growsC_rng h1 h2 h3 h4 n).2
theorem growsC_fix {h x : Int} {n : Nat} (e : growsC h (n + 1) x = growsC h n x) : ∀ m, growsC h (n + m) x = growsC h n x
  | 0 => rfl
  | m + 1 => by
    show grownC h (growsC h (n + m) x) = _
    rw [growsC_fix e m]
    exact e
theorem c_grownIn {l : Launch} {E : EnvT} {d : Nat} {K : AV → Mem → Prop} {M : Mem} {r : Nat} {x : Int} {n : Nat} (hd : 3 ≤ d) (hV : VB (M r)) (h1 : 0 ≤ x) (h2 : x ≤ 999) (hn : n ≤ 999) (h : K (.int (iN (growsC (M r 0 13) n x)), 0) M) : CT l E d m_Choir_grownIn [(.ref r, 11), (.int (iN x), 0), (.int (iN n), 0)] M K := by
  refine CT.of pn_Choir (Nat.le_of_ble_eq_true rfl) ?_
  have hh := hV.hum
  refine b_Choir_grownIn_0 (by omega) ?_
  have k1 : ∀ k, k ≤ n → G l E d m_Choir_grownIn 5 [(0, (.ref r, 11)), (2, (.int (iN n), 0)), (3, (.int (iN (growsC (M r 0 13) k x)), 0)), (4, (.int (iN k), 0))] [] M K := by
    refine dn n ?_ (fun k hk ih => ?_)
    · refine b_Choir_grownIn_5 (by omega) ⟨fun _ => h, fun c => absurd ((iN_le (by omega) (by omega) (by omega) (by omega)).mpr (by omega)) c⟩
    · have g1 := growsC_rng hh.1 hh.2 h1 h2 k
      have g2 := growsC_rng hh.1 hh.2 h1 h2 (k + 1)
      refine b_Choir_grownIn_5 (by omega) ⟨fun c => absurd ((iN_le (by omega) (by omega) (by omega) (by omega)).mp c) (by omega), fun _ => c_grown (by omega) hV g1.1 g1.2 ?_⟩
      rw [toI_int]
      have e0 : grownC (M r 0 13) (growsC (M r 0 13) k x) = growsC (M r 0 13) (k + 1) x := rfl
      rw [e0, iN_eq (by omega) (by omega) (by omega) (by omega), iN_add]
      refine ⟨fun _ => ih, fun c => ?_⟩
      have e := growsC_fix c (n - k)
      rw [show k + (n - k) = n by omega] at e
      rw [e] at h
      exact h
  exact k1 0 (by omega)
