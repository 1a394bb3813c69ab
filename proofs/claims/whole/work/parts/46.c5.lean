def freeC (C : Ch) (s : Nat) : Int := cntN (fun k => C 6 (6 * s + k) == -1) (C 4 s).toNat
theorem c_freeNotes {l : Launch} {E : EnvT} {d : Nat} {K : AV → Mem → Prop} {M : Mem} {r : Nat} {s : Nat} (hd : 2 ≤ d) (hV : VB (M r)) (hs : s < 8) (h : K (.int (iN (freeC (M r) s)), 0) M) : CT l E d m_Choir_freeNotes [(.ref r, 11), (.int (iN s), 0)] M K := by
  refine CT.of pn_Choir (Nat.le_of_ble_eq_true rfl) ?_
  refine b_Choir_freeNotes_0 (by omega) ?_
  have hl := hV.le s hs
  obtain ⟨q, hq⟩ : ∃ q : Nat, M r 4 s = q := ⟨(M r 4 s).toNat, (by omega)⟩
  unfold freeC at h
  rw [hq] at h
  have k1 : ∀ k, k ≤ q → G l E d m_Choir_freeNotes 4 [(0, (.ref r, 11)), (1, (.int (iN s), 0)), (2, (.int (iN (cntN (fun k => M r 6 (6 * s + k) == -1) k)), 0)), (3, (.int (iN k), 0))] [] M K := by
    refine dn q ?_ (fun k hk ih => ?_)
    · refine b_Choir_freeNotes_4 (by omega) ?_
      simp (disch := omega) only [true_or, or_true, true_and, iN_lt, iN_le, iN_eq, iN_lt0, iN_le0, iN_0le, iN_0lt, iN_eq0, iN_eq1, iN_add, iN_sub, iN_mul, iN_neg, iN_clN, toI_int, hq]
      exact ⟨iN_in (by omega) (by omega) (by omega), fun _ => h, fun c => absurd (by omega) c⟩
    · refine b_Choir_freeNotes_4 (by omega) ?_
      have hh := hV.ho (6 * s + k) (by omega)
      simp (disch := omega) only [true_or, or_true, true_and, iN_lt, iN_le, iN_eq, iN_lt0, iN_le0, iN_0le, iN_0lt, iN_eq0, iN_eq1, iN_add, iN_sub, iN_mul, iN_neg, iN_clN, toI_int, hq]
      refine ⟨iN_in (by omega) (by omega) (by omega), fun c => absurd c (by omega), fun _ => c_slot (by omega) ?_⟩
      rw [show (s : Int) * 6 + k = ((6 * s + k : Nat) : Int) by push_cast; omega]
      simp (disch := omega) only [true_or, or_true, true_and, iN_lt, iN_le, iN_eq, iN_lt0, iN_le0, iN_0le, iN_0lt, iN_eq0, iN_eq1, iN_add, iN_sub, iN_mul, iN_neg, iN_clN, toI_int]
      refine ⟨iN_in (by omega) (by omega) (by omega), fun c => ?_, fun c => ?_⟩
      · simpa [cntN, b2i, c] using ih
      · simpa [cntN, b2i, c] using ih
  exact k1 0 (by omega)
def sungC (C : Ch) (s k : Nat) : Int := C 5 (6 * s + k) + C 7 (6 * s + k) - (if inS (C 0 9) s then 12 else 0)
theorem c_sungAt {l : Launch} {E : EnvT} {d : Nat} {K : AV → Mem → Prop} {M : Mem} {r : Nat} {s k : Nat} (hd : 2 ≤ d) (hV : VB (M r)) (hs : s < 8) (hk : k < 6) (h : K (.int (iN (sungC (M r) s k)), 0) M) : CT l E d m_Choir_sungAt [(.ref r, 11), (.int (iN s), 0), (.int (iN k), 0)] M K := by
  refine CT.of pn_Choir (Nat.le_of_ble_eq_true rfl) ?_
  refine b_Choir_sungAt_0 (by omega) (c_slot (by omega) ?_)
  have hm := hV.ms 9 (by omega) (by omega)
  rw [show (s : Int) * 6 + k = ((6 * s + k : Nat) : Int) by push_cast; omega, toI_int, iN_clN (by omega)]
  refine ⟨iN_in (by omega) (by omega) (by omega), iN_in (by omega) (by omega) (by omega), c_isIn (by omega) hm.1 hm.2 hs ?_⟩
  unfold sungC at h
  simp only [toI_int, b2i_z, iN_add, iN_sub]
  refine ⟨fun c => ?_, fun c => ?_⟩
  · rw [c] at h; simpa using h
  · rw [Bool.not_eq_false] at c
    rw [c] at h; exact h
def livAt (C : Ch) : Nat → Nat → Int → Int
  | _, 0, _ => -1
  | s, m + 1, k => if livesB C s then (if k = 0 then (s : Int) else livAt C (s + 1) m (k - 1)) else livAt C (s + 1) m k
theorem c_livingAt {l : Launch} {E : EnvT} {d : Nat} {K : AV → Mem → Prop} {M : Mem} {r : Nat} {k : Int} (hd : 2 ≤ d) (hV : VB (M r)) (h1 : 0 ≤ k) (h2 : k < 100) (h : K (.int (iN (livAt (M r) 0 (M r 0 8).toNat k)), 0) M) : CT l E d m_Choir_livingAt [(.ref r, 11), (.int (iN k), 0)] M K := by
  refine CT.of pn_Choir (Nat.le_of_ble_eq_true rfl) ?_
  refine b_Choir_livingAt_0 (by omega) ?_
  have hw := hV.n
  obtain ⟨n, hn⟩ : ∃ n : Nat, M r 0 8 = n := ⟨(M r 0 8).toNat, (by omega)⟩
  rw [hn] at h
  have key : ∀ (m s : Nat) (j : Int), s + m = n → 0 ≤ j → j < 100 → livAt (M r) 0 n k = livAt (M r) s m j → G l E d m_Choir_livingAt 4 [(0, (.ref r, 11)), (2, (.int (iN j), 0)), (3, (.int (iN s), 0))] [] M K := by
    intro m
    induction m with
    | zero =>
      intro s j hs j1 j2 he
      refine b_Choir_livingAt_4 (by omega) ?_
      rw [hn]
      have h' : K (.int (iN (livAt (M r) 0 n k)), 0) M := h
      rw [he] at h'
      exact ⟨fun _ => h', fun c => absurd ((iN_le (by omega) (by omega) (by omega) (by omega)).mpr (by omega)) c⟩
    | succ m ih =>
      intro s j hs j1 j2 he
      refine b_Choir_livingAt_4 (by omega) ?_
      rw [hn]
      refine ⟨fun c => absurd ((iN_le (by omega) (by omega) (by omega) (by omega)).mp c) (by omega), fun _ => c_lives (by omega) hV (by omega) (by omega) ?_⟩
      simp only [toI_int, b2i_z, iN_add]
      refine ⟨fun c => ?_, fun c => ⟨fun c2 => ?_, fun c2 => ?_⟩⟩
      · refine ih (s + 1) j (by omega) j1 j2 ?_
        rw [he]
        simp [livAt, c]
      · rw [Bool.not_eq_false] at c
        rw [iN_eq0 (by omega) (by omega)] at c2
        refine ih (s + 1) (j + -1) (by omega) (by omega) (by omega) ?_
        rw [he]
        simp only [livAt, c, if_true, c2, if_false]
        rfl
      · rw [Bool.not_eq_false] at c
        rw [iN_eq0 (by omega) (by omega)] at c2
        have h' : K (.int (iN (livAt (M r) 0 n k)), 0) M := h
        rw [he] at h'
        simpa only [livAt, c, if_true, c2] using h'
  exact key n 0 k (by omega) h1 h2 rfl
theorem c_countFor {l : Launch} {E : EnvT} {d : Nat} {K : AV → Mem → Prop} {M : Mem} {r : Nat} {x : Int} (hd : 1 ≤ d) (hV : VB (M r)) (hx1 : -1 ≤ x) (hx2 : x < 100) (h : K (.int (iN (cntN (fun k => M r 10 k == x) (M r 8 3).toNat)), 0) M) : CT l E d m_Waiting_countFor [(.ref r, 19), (.int (iN x), 0)] M K := by
  refine CT.of pn_Waiting (Nat.le_of_ble_eq_true rfl) ?_
  refine b_Waiting_countFor_0 hd ?_
  have hw := hV.w
  obtain ⟨n, hn⟩ : ∃ n : Nat, M r 8 3 = n := ⟨(M r 8 3).toNat, (by omega)⟩
  rw [hn] at h
  have k1 : ∀ k, k ≤ n → G l E d m_Waiting_countFor 4 [(0, (.ref r, 19)), (1, (.int (iN x), 0)), (2, (.int (iN (cntN (fun k => M r 10 k == x) k)), 0)), (3, (.int (iN k), 0))] [] M K := by
    refine dn n ?_ (fun k hk ih => ?_)
    · refine b_Waiting_countFor_4 hd ?_
      rw [hn]
      exact ⟨fun _ => h, fun c => absurd ((iN_le (by omega) (by omega) (by omega) (by omega)).mpr (by omega)) c⟩
    · refine b_Waiting_countFor_4 hd ?_
      have ha := hV.wb k (by omega)
      rw [hn]
      simp (disch := omega) only [true_or, or_true, true_and, iN_lt, iN_le, iN_eq, iN_lt0, iN_le0, iN_0le, iN_0lt, iN_eq0, iN_eq1, iN_add, iN_sub, iN_mul, iN_neg, iN_clN, toI_int]
      refine ⟨fun c => absurd c (by omega), fun _ => ⟨iN_in (by omega) (by omega) (by omega), fun c => ?_, fun c => ?_⟩⟩
      · simpa [cntN, b2i, c] using ih
      · simpa [cntN, b2i, c] using ih
  exact k1 0 (by omega)
/-- all that is owed in w SUNDAYS, LINE by LINE -/
def lineIn (C : Ch) (w s : Nat) : Nat → Int := sumN (fun k => growsC (C 0 13) (if inS (C 0 10) s then 0 else w) (C 7 (6 * s + k)))
def linesIn (C : Ch) (w : Nat) : Nat → Int := sumN (fun s => lineIn C w s (C 4 s).toNat)
def allOwC (C : Ch) (w : Nat) : Int := linesIn C w (C 0 8).toNat + sumN (C 11) (C 8 3).toNat
theorem c_allOwedIn {l : Launch} {E : EnvT} {d : Nat} {K : AV → Mem → Prop} {M : Mem} {r : Nat} {w : Nat} (hd : 4 ≤ d) (hV : VB (M r)) (hw9 : w ≤ 999) (h : K (.int (iN (allOwC (M r) w)), 0) M) : CT l E d m_Choir_allOwedIn [(.ref r, 11), (.int (iN w), 0)] M K := by
  refine CT.of pn_Choir (Nat.le_of_ble_eq_true rfl) ?_
  refine b_Choir_allOwedIn_0 (by omega) ?_
  have hn0 := hV.n
  have hw0 := hV.w
  have hm := hV.ms 10 (by omega) (by omega)
  obtain ⟨n, hn⟩ : ∃ n : Nat, M r 0 8 = n := ⟨(M r 0 8).toNat, (by omega)⟩
  obtain ⟨p, hp⟩ : ∃ p : Nat, M r 8 3 = p := ⟨(M r 8 3).toNat, (by omega)⟩
  unfold allOwC at h
  rw [hn, hp] at h
  have k3 : ∀ k, k ≤ p → G l E d m_Choir_allOwedIn 78 [(0, (.ref r, 11)), (2, (.int (iN (linesIn (M r) w n + sumN (M r 11) k)), 0)), (3, (.int (iN k), 0))] [] M K := by
    refine dn p ?_ (fun k hk ih => ?_)
    · refine b_Choir_allOwedIn_78 (by omega) ?_
      rw [hp]
      exact ⟨fun _ => h, fun c => absurd ((iN_le (by omega) (by omega) (by omega) (by omega)).mpr (by omega)) c⟩
    · refine b_Choir_allOwedIn_78 (by omega) ?_
      rw [hp]
      simp (disch := omega) only [true_or, or_true, true_and, iN_lt, iN_le, iN_eq, iN_lt0, iN_le0, iN_0le, iN_0lt, iN_eq0, iN_eq1, iN_add, iN_sub, iN_mul, iN_neg, iN_clN, toI_int]
      refine ⟨fun c => absurd c (by omega), fun _ => ⟨iN_in (by omega) (by omega) (by omega), ?_⟩⟩
      simpa [sumN, Int.add_assoc] using ih
  have k1 : ∀ s, s ≤ n → G l E d m_Choir_allOwedIn 4 [(0, (.ref r, 11)), (1, (.int (iN w), 0)), (2, (.int (iN (linesIn (M r) w s)), 0)), (3, (.int (iN s), 0))] [] M K := by
    refine dn n ?_ (fun s hs ih => ?_)
    · refine b_Choir_allOwedIn_4 (by omega) ?_
      rw [hn]
      refine ⟨fun _ => ?_, fun c => absurd ((iN_le (by omega) (by omega) (by omega) (by omega)).mpr (by omega)) c⟩
      have := k3 0 (by omega)
      simpa [sumN] using this
    · have hl := hV.le s (by omega)
      obtain ⟨q, hq⟩ : ∃ q : Nat, M r 4 s = q := ⟨(M r 4 s).toNat, (by omega)⟩
      have k2 : ∀ k, k ≤ q → G l E d m_Choir_allOwedIn 33 [(0, (.ref r, 11)), (1, (.int (iN w), 0)), (2, (.int (iN (linesIn (M r) w s + lineIn (M r) w s k)), 0)), (3, (.int (iN s), 0)), (4, (.int (iN ((if inS (M r 0 10) s then 0 else w : Nat) : Int)), 0)), (5, (.int (iN k), 0))] [] M K := by
        refine dn q ?_ (fun k hk ih2 => ?_)
        · refine b_Choir_allOwedIn_33 (by omega) ?_
          simp (disch := omega) only [true_or, or_true, true_and, iN_lt, iN_le, iN_eq, iN_lt0, iN_le0, iN_0le, iN_0lt, iN_eq0, iN_eq1, iN_add, iN_sub, iN_mul, iN_neg, iN_clN, toI_int, hq]
          refine ⟨iN_in (by omega) (by omega) (by omega), fun _ => ?_, fun c => absurd (by omega) c⟩
          have e : linesIn (M r) w (s + 1) = linesIn (M r) w s + lineIn (M r) w s q := by
            show linesIn (M r) w s + lineIn (M r) w s (M r 4 s).toNat = _
            rw [hq]; rfl
          rw [e] at ih
          exact ih
        · refine b_Choir_allOwedIn_33 (by omega) ?_
          have hh := hV.de (6 * s + k) (by omega)
          simp (disch := omega) only [true_or, or_true, true_and, iN_lt, iN_le, iN_eq, iN_lt0, iN_le0, iN_0le, iN_0lt, iN_eq0, iN_eq1, iN_add, iN_sub, iN_mul, iN_neg, iN_clN, toI_int, hq]
          refine ⟨iN_in (by omega) (by omega) (by omega), fun c => absurd c (by omega), fun _ => c_slot (by omega) ?_⟩
          rw [show (s : Int) * 6 + k = ((6 * s + k : Nat) : Int) by push_cast; omega]
          simp (disch := omega) only [true_or, or_true, true_and, iN_lt, iN_le, iN_eq, iN_lt0, iN_le0, iN_0le, iN_0lt, iN_eq0, iN_eq1, iN_add, iN_sub, iN_mul, iN_neg, iN_clN, toI_int]
          refine ⟨iN_in (by omega) (by omega) (by omega), c_grownIn (by omega) hV hh.1 hh.2 (by split <;> omega) ?_⟩
          rw [toI_int, iN_add]
          simpa [lineIn, sumN, Int.add_assoc] using ih2
      refine b_Choir_allOwedIn_4 (by omega) ?_
      rw [hn]
      refine ⟨fun c => absurd ((iN_le (by omega) (by omega) (by omega) (by omega)).mp c) (by omega), fun _ => c_isIn (by omega) hm.1 hm.2 (by omega) ?_⟩
      simp only [toI_int, b2i_z]
      have k20 := k2 0 (by omega)
      refine ⟨fun c => ?_, fun c => ?_⟩
      · rw [c] at k20
        simpa [lineIn, sumN] using k20
      · rw [Bool.not_eq_false] at c
        rw [c] at k20
        simpa [lineIn, sumN] using k20
  exact k1 0 (by omega)
theorem c_allOwed {l : Launch} {E : EnvT} {d : Nat} {K : AV → Mem → Prop} {M : Mem} {r : Nat} (hd : 5 ≤ d) (hV : VB (M r)) (h : K (.int (iN (allOwC (M r) 0)), 0) M) : CT l E d m_Choir_allOwed [(.ref r, 11)] M K := by
  refine CT.of pn_Choir (Nat.le_of_ble_eq_true rfl) ?_
  exact b_Choir_allOwed_0 (by omega) (c_allOwedIn (w := 0) (by omega) hV (by omega) h)
