def setB (m : Int) (s : Nat) : Int := ((m.toNat ||| 2 ^ s : Nat) : Int)
def clrB (m : Int) (s : Nat) : Int := ((m.toNat &&& (255 - 2 ^ s) : Nat) : Int)
theorem or_bit0 : ∀ m : Nat, m < 256 → ∀ s : Nat, s < 8 → (iN (m : Int) ||| (iN 1 <<< (iN (s : Int) &&& 31))) = iN ((m ||| 2 ^ s : Nat) : Int) ∧ (m ||| 2 ^ s) < 256 := by decide +kernel
theorem clr_bit0 : ∀ m : Nat, m < 256 → ∀ s : Nat, s < 8 → (iN (m : Int) &&& ((iN 1 <<< (iN (s : Int) &&& 31)) ^^^ iN (-1))) = iN ((m &&& (255 - 2 ^ s) : Nat) : Int) ∧ (m &&& (255 - 2 ^ s)) < 256 := by decide +kernel
theorem or_bit {m : Int} {s : Nat} (h1 : 0 ≤ m) (h2 : m < 256) (h3 : s < 8) : (iN m ||| (iN 1 <<< (iN (s : Int) &&& 31))) = iN (setB m s) := by
  obtain ⟨k, rfl⟩ : ∃ k : Nat, m = k := ⟨m.toNat, (by omega)⟩
  exact (or_bit0 k (by omega) s h3).1
theorem clr_bit {m : Int} {s : Nat} (h1 : 0 ≤ m) (h2 : m < 256) (h3 : s < 8) : (iN m &&& ((iN 1 <<< (iN (s : Int) &&& 31)) ^^^ iN (-1))) = iN (clrB m s) := by
  obtain ⟨k, rfl⟩ : ∃ k : Nat, m = k := ⟨m.toNat, (by omega)⟩
  exact (clr_bit0 k (by omega) s h3).1
theorem setB_rng {m : Int} {s : Nat} (h1 : 0 ≤ m) (h2 : m < 256) (h3 : s < 8) : 0 ≤ setB m s ∧ setB m s < 256 := by
  obtain ⟨k, rfl⟩ : ∃ k : Nat, m = k := ⟨m.toNat, (by omega)⟩
  have := (or_bit0 k (by omega) s h3).2
  unfold setB
  rw [show ((k : Int)).toNat = k from rfl]
  omega
theorem clrB_rng {m : Int} {s : Nat} (h1 : 0 ≤ m) (h2 : m < 256) (h3 : s < 8) : 0 ≤ clrB m s ∧ clrB m s < 256 := by
  obtain ⟨k, rfl⟩ : ∃ k : Nat, m = k := ⟨m.toNat, (by omega)⟩
  have := (clr_bit0 k (by omega) s h3).2
  unfold clrB
  rw [show ((k : Int)).toNat = k from rfl]
  omega
/-- the ring: who, out of Ties' path P -/
def ringMin (C : Ch) (P : Nat → Int) (n : Nat) : Nat → Int
  | 0 => 999
  | k + 1 => min (ringMin C P n k) (debtC C (P k) (P ((k + 1) % n)).toNat)
def ringOff (P : Nat → Int) (n : Nat) (off : Int) : Nat → Nat → Ch → Ch
  | 0, _, C => C
  | m + 1, k, C => ringOff P n off m (k + 1) (if slotOfC C (P k) (P ((k + 1) % n)).toNat = -1 then C else takeOffC C (slotOfC C (P k) (P ((k + 1) % n)).toNat).toNat off)
theorem ringMin_rng {C : Ch} (hV : VB C) {P : Nat → Int} {n : Nat} (hn : 1 ≤ n) (hn8 : n ≤ 8) (hP : ∀ k, k < 8 → 0 ≤ P k ∧ P k < 8) : ∀ k, 0 ≤ ringMin C P n k ∧ ringMin C P n k ≤ 999
  | 0 => by simp [ringMin]
  | k + 1 => by
    have h1 := ringMin_rng hV hn hn8 hP k
    have hlt : (k + 1) % n < n := Nat.mod_lt _ (by omega)
    have h3 := hP ((k + 1) % n) (by omega)
    have h2 := debtC_rng hV (P k) (b := (P ((k + 1) % n)).toNat) (by omega)
    simp only [ringMin]
    omega
theorem c_clearRing {l : Launch} {E : EnvT} {d : Nat} {K : AV → Mem → Prop} {M : Mem} {r r2 : Nat} {C : Ch} {n : Nat} {P : Nat → Int} (hd : 3 ≤ d) (hV : VB C) (hr : r2 ≠ r) (hn : 1 ≤ n) (hn8 : n ≤ 8) (hPe : M r2 4 = P) (hP : ∀ k, k < 8 → 0 ≤ P k ∧ P k < 8)
    (hoff : ∀ m k D, k + m = n → ringOff P n (ringMin C P n n) n 0 C = ringOff P n (ringMin C P n n) m k D → VB D → 1 ≤ m → slotOfC D (P k) (P ((k + 1) % n)).toNat ≠ -1 → ringMin C P n n ≤ D 7 (slotOfC D (P k) (P ((k + 1) % n)).toNat).toNat)
    (h : K (.int (iN (ringMin C P n n)), 0) (setR M r (settleC (ringOff P n (ringMin C P n n) n 0 C)))) : CT l E d m_Choir_clearRing [(.ref r, 11), (.ref r2, 34), (.int (iN n), 0)] (setR M r C) K := by
  refine CT.of pn_Choir (Nat.le_of_ble_eq_true rfl) ?_
  refine b_Choir_clearRing_0 (by omega) ?_
  have hrm := ringMin_rng hV hn hn8 hP
  have key2 : ∀ (m k : Nat) (D : Ch), k + m = n → VB D → ringOff P n (ringMin C P n n) n 0 C = ringOff P n (ringMin C P n n) m k D → G l E d m_Choir_clearRing 43 [(0, (.ref r, 11)), (1, (.ref r2, 34)), (2, (.int (iN n), 0)), (3, (.int (iN (ringMin C P n n)), 0)), (4, (.int (iN k), 0))] [] (setR M r D) K := by
    intro m
    induction m with
    | zero =>
      intro k D hk hD he
      refine b_Choir_clearRing_43 (by omega) ⟨fun _ => c_settle (by omega) hD ?_, fun c => absurd ((iN_le (by omega) (by omega) (by omega) (by omega)).mpr (by omega)) c⟩
      rw [he] at h
      exact h
    | succ m ih =>
      intro k D hk hD he
      have h0 := hoff (m + 1) k D hk he hD (by omega)
      have hlt : (k + 1) % n < n := Nat.mod_lt _ (by omega)
      have q1 := hP k (by omega)
      have q2 := hP ((k + 1) % n) (by omega)
      obtain ⟨y, hy⟩ : ∃ y : Nat, P ((k + 1) % n) = y := ⟨(P ((k + 1) % n)).toNat, (by omega)⟩
      refine b_Choir_clearRing_43 (by omega) ⟨fun c => absurd ((iN_le (by omega) (by omega) (by omega) (by omega)).mp c) (by omega), fun _ => ?_⟩
      have er : iR (iN (k : Int) + iN 1) (iN (n : Int)) = iN (((k + 1) % n : Nat) : Int) := by
        rw [iN_add, iN_rem (by omega) (by omega) (by omega) (by omega)]
        rfl
      rw [er, iN_clN (by omega), iN_clN (by omega), setR_ne M D hr, hPe, hy]
      refine ⟨iN_in (by omega) (by omega) (by omega), by rw [iN_eq0 (by omega) (by omega)]; omega, iN_in (by omega) (by omega) (by omega), c_slotOfS (by omega) hD (by omega) (by omega) (by omega) ?_⟩
      rw [hy, show ((y : Int)).toNat = y from rfl] at h0
      have he' := he
      simp only [ringOff] at he'
      rw [hy, show ((y : Int)).toNat = y from rfl] at he'
      rw [iN_add]
      rcases slotOf_rng hD (P k) (b := y) (by omega) with e | ⟨i, e, -, -, hi, -⟩
      · rw [e, toI_int]
        rw [if_pos e] at he'
        exact ⟨fun _ => ih (k + 1) D (by omega) hD he', fun c => absurd rfl c⟩
      · rw [e, if_neg (by omega), show ((i : Int)).toNat = i from rfl] at he'
        rw [e, show ((i : Int)).toNat = i from rfl] at h0
        have h0' := h0 (by omega)
        rw [e, toI_int, iN_eq (by omega) (by omega) (by omega) (by omega)]
        exact ⟨fun c => absurd c (by omega), fun _ => c_takeOff (by omega) hD hi (hrm n).1 h0' (ih (k + 1) _ (by omega) (VB_takeOff hD hi (hrm n).1 h0') he')⟩
  have key1 : ∀ k, k ≤ n → G l E d m_Choir_clearRing 7 [(0, (.ref r, 11)), (1, (.ref r2, 34)), (2, (.int (iN n), 0)), (3, (.int (iN (ringMin C P n k)), 0)), (4, (.int (iN k), 0))] [] (setR M r C) K := by
    refine dn n ?_ (fun k hk ih => ?_)
    · exact b_Choir_clearRing_7 (by omega) ⟨fun _ => key2 n 0 C (by omega) hV rfl, fun c => absurd ((iN_le (by omega) (by omega) (by omega) (by omega)).mpr (by omega)) c⟩
    · have hlt : (k + 1) % n < n := Nat.mod_lt _ (by omega)
      have q1 := hP k (by omega)
      have q2 := hP ((k + 1) % n) (by omega)
      have q3 := hrm k
      obtain ⟨y, hy⟩ : ∃ y : Nat, P ((k + 1) % n) = y := ⟨(P ((k + 1) % n)).toNat, (by omega)⟩
      have q4 := debtC_rng hV (P k) (b := y) (by omega)
      refine b_Choir_clearRing_7 (by omega) ⟨fun c => absurd ((iN_le (by omega) (by omega) (by omega) (by omega)).mp c) (by omega), fun _ => ?_⟩
      have er : iR (iN (k : Int) + iN 1) (iN (n : Int)) = iN (((k + 1) % n : Nat) : Int) := by
        rw [iN_add, iN_rem (by omega) (by omega) (by omega) (by omega)]
        rfl
      rw [er, iN_clN (by omega), iN_clN (by omega), setR_ne M C hr, hPe, hy]
      refine ⟨iN_in (by omega) (by omega) (by omega), by rw [iN_eq0 (by omega) (by omega)]; omega, iN_in (by omega) (by omega) (by omega), c_debtAtNoteS (by omega) hV (by omega) (by omega) (by omega) ?_⟩
      rw [toI_int]
      refine c_min (by omega) (by omega) (by omega) (by omega) (by omega) ?_
      rw [toI_int, iN_add]
      have e : ringMin C P n (k + 1) = min (ringMin C P n k) (debtC C (P k) y) := by
        show min _ (debtC C (P k) (P ((k + 1) % n)).toNat) = _
        rw [hy]; rfl
      rw [e] at ih
      exact ih
  exact key1 0 (by omega)
/-- SUNDAY: which places have grown when s LINES are through and k NOTES of the next -/
def sunP (C : Ch) (s k : Nat) : Ch := fun c i => if c = 7 ∧ ((i / 6 < s ∨ (i / 6 = s ∧ i % 6 < k)) ∧ ((i % 6 : Nat) : Int) < C 4 (i / 6) ∧ inS (C 0 10) (i / 6) = false) then grownC (C 0 13) (C 7 i) else if c = 0 ∧ i = 14 then C 0 14 + 1 else C c i
def sunC (C : Ch) : Bool × Ch := if C 0 14 < 9999 then (true, sunP C (C 0 8).toNat 0) else (false, C)
theorem sunP_c (C : Ch) (s k : Nat) {c : Nat} (h7 : c ≠ 7) (h0 : c ≠ 0) : sunP C s k c = C c := by
  funext i
  unfold sunP
  rw [if_neg (fun q => h7 q.1), if_neg (fun q => h0 q.1)]
theorem sunP_0 (C : Ch) (s k : Nat) {j : Nat} (h : j ≠ 14) : sunP C s k 0 j = C 0 j := by
  unfold sunP
  rw [if_neg (fun q => absurd q.1 (by decide)), if_neg (fun q => h q.2)]
theorem sunP_14 (C : Ch) (s k : Nat) : sunP C s k 0 14 = C 0 14 + 1 := by
  unfold sunP
  rw [if_neg (fun q => absurd q.1 (by decide)), if_pos ⟨rfl, rfl⟩]
theorem sunP_at (C : Ch) (s k : Nat) : sunP C s k 7 (6 * s + k) = C 7 (6 * s + k) ∨ k ≥ 6 := by
  by_cases hk : k < 6
  · left
    unfold sunP
    rw [if_neg, if_neg (fun q => absurd q.1 (by decide))]
    rintro ⟨-, h, -⟩
    have e1 : (6 * s + k) / 6 = s := (by omega)
    have e2 : (6 * s + k) % 6 = k := (by omega)
    rw [e1, e2] at h
    omega
  · right; omega
theorem VB_sun {C : Ch} (hV : VB C) (h14 : C 0 14 < 9999) (s k : Nat) : VB (sunP C s k) := by
  have hu := hV.hum
  obtain ⟨a1, a2, a3, a4, a5, a6, a7, a8, a9, a10, a11, a12, a13, a14, a15⟩ := id hV
  refine ⟨by rw [sunP_0 C s k (by decide)]; exact a1, fun j q1 q2 => by rw [sunP_0 C s k (by omega)]; exact a2 j q1 q2, by rw [sunP_0 C s k (by decide)]; exact a3, by rw [sunP_14]; omega, by rw [sunP_0 C s k (by decide)]; exact a5, by rw [sunP_c C s k (by decide) (by decide)]; exact a6, by rw [sunP_c C s k (by decide) (by decide)]; exact a7, by rw [sunP_c C s k (by decide) (by decide)]; exact a8, by rw [sunP_c C s k (by decide) (by decide)]; exact a9, by rw [sunP_c C s k (by decide) (by decide)]; exact a10, fun i hi => ?_, by rw [sunP_c C s k (by decide) (by decide)]; exact a12, by rw [sunP_c C s k (by decide) (by decide)]; exact a13, by rw [sunP_c C s k (by decide) (by decide)]; exact a14, by rw [sunP_c C s k (by decide) (by decide)]; exact a15⟩
  unfold sunP
  split
  · exact grownC_rng hu.1 hu.2 (a11 i hi).1 (a11 i hi).2
  · rw [if_neg (fun q => absurd q.1 (by decide))]
    exact a11 i hi
theorem sunP_step {C : Ch} {s k : Nat} (hk : (k : Int) < C 4 s) (hk6 : k < 6) (hdf : inS (C 0 10) s = false) : upd2 (sunP C s k) 7 (6 * s + k) (grownC (C 0 13) (C 7 (6 * s + k))) = sunP C s (k + 1) := by
  funext c i
  unfold upd2 sunP
  have e1 : (6 * s + k) / 6 = s := (by omega)
  have e2 : (6 * s + k) % 6 = k := (by omega)
  by_cases hc : c = 7
  · subst hc
    by_cases hi : i = 6 * s + k
    · subst hi
      rw [if_pos ⟨rfl, rfl⟩, if_pos]
      rw [e1, e2]
      exact ⟨rfl, Or.inr ⟨rfl, (by omega)⟩, hk, hdf⟩
    · rw [if_neg (fun q => hi q.2)]
      have e3 : (i / 6 < s ∨ (i / 6 = s ∧ i % 6 < k)) ↔ (i / 6 < s ∨ (i / 6 = s ∧ i % 6 < k + 1)) := (by omega)
      simp only [e3]
  · rw [if_neg (fun q => hc q.1)]
    simp [hc]
theorem sunP_row {C : Ch} {s k : Nat} (hk : C 4 s ≤ k ∨ inS (C 0 10) s = true) (hk6 : k ≤ 6) : sunP C s k = sunP C (s + 1) 0 ∨ True := Or.inr trivial
theorem sunP_next {C : Ch} {s k : Nat} (h : ∀ j, k ≤ j → j < 6 → ¬ ((j : Int) < C 4 s ∧ inS (C 0 10) s = false)) : sunP C s k = sunP C (s + 1) 0 := by
  funext c i
  unfold sunP
  by_cases hc : c = 7
  · subst hc
    have e3 : ((i / 6 < s ∨ (i / 6 = s ∧ i % 6 < k)) ∧ ((i % 6 : Nat) : Int) < C 4 (i / 6) ∧ inS (C 0 10) (i / 6) = false) ↔ ((i / 6 < s + 1 ∨ (i / 6 = s + 1 ∧ i % 6 < 0)) ∧ ((i % 6 : Nat) : Int) < C 4 (i / 6) ∧ inS (C 0 10) (i / 6) = false) := by
      constructor
      · rintro ⟨h1, h2⟩
        exact ⟨(by omega), h2⟩
      · rintro ⟨h1, h2⟩
        refine ⟨?_, h2⟩
        by_cases hs : i / 6 = s
        · by_cases hj : i % 6 < k
          · exact Or.inr ⟨hs, hj⟩
          · rw [hs] at h2
            exact absurd h2 (h (i % 6) (by omega) (by omega))
        · omega
    simp only [e3]
  · simp [hc]
theorem c_keepSunday {l : Launch} {E : EnvT} {d : Nat} {K : AV → Mem → Prop} {M : Mem} {r : Nat} {C : Ch} (hd : 3 ≤ d) (hV : VB C) (h : K (.int (iN (b2i (sunC C).1)), 0) (setR M r (sunC C).2)) : CT l E d m_Choir_keepSunday [(.ref r, 11)] (setR M r C) K := by
  refine CT.of pn_Choir (Nat.le_of_ble_eq_true rfl) ?_
  refine b_Choir_keepSunday_0 (by omega) ?_
  have hs0 := hV.sun
  have hn0 := hV.n
  have hu := hV.hum
  have hm := hV.ms 10 (by omega) (by omega)
  obtain ⟨n, hn⟩ : ∃ n : Nat, C 0 8 = n := ⟨(C 0 8).toNat, (by omega)⟩
  unfold sunC at h
  rw [setR_same, iN_lt (by omega) (by omega) (by omega) (by omega)]
  refine ⟨fun c => ?_, fun c => ⟨z01, ?_⟩⟩
  · rw [if_pos c, hn, show ((n : Int)).toNat = n from rfl] at h
    have hVs : ∀ s k, VB (sunP C s k) := fun s k => VB_sun hV c s k
    have key : ∀ s, s ≤ n → G l E d m_Choir_keepSunday 24 [(0, (.ref r, 11)), (1, (.int (iN s), 0))] [] (setR M r (sunP C s 0)) K := by
      refine dn n ?_ (fun s hs ih => ?_)
      · refine b_Choir_keepSunday_24 (by omega) ?_
        rw [setR_same, sunP_0 C n 0 (by decide), hn]
        exact ⟨fun _ => ⟨o01, h⟩, fun c => absurd ((iN_le (by omega) (by omega) (by omega) (by omega)).mpr (by omega)) c⟩
      · have hl := hV.le s (by omega)
        obtain ⟨q, hq⟩ : ∃ q : Nat, C 4 s = q := ⟨(C 4 s).toNat, (by omega)⟩
        have key2 : ∀ k, k ≤ q → G l E d m_Choir_keepSunday 34 [(0, (.ref r, 11)), (1, (.int (iN s), 0)), (2, (.int (iN k), 0))] [] (setR M r (sunP C s k)) K := by
          refine dn q ?_ (fun k hk ih2 => ?_)
          · refine b_Choir_keepSunday_34 (by omega) ?_
            rw [setR_same, iN_clN (by omega), sunP_c C s q (show 4 ≠ 7 by decide) (show 4 ≠ 0 by decide), hq]
            refine ⟨iN_in (by omega) (by omega) (by omega), fun _ => ?_, fun c => absurd ((iN_le (by omega) (by omega) (by omega) (by omega)).mpr (by omega)) c⟩
            rw [iN_add, sunP_next (fun j h1 h2 => by rw [hq]; omega)]
            exact ih
          · refine b_Choir_keepSunday_34 (by omega) ?_
            rw [setR_same, iN_clN (by omega), sunP_c C s k (show 4 ≠ 7 by decide) (show 4 ≠ 0 by decide), hq, sunP_0 C s k (show 10 ≠ 14 by decide)]
            refine ⟨iN_in (by omega) (by omega) (by omega), fun c => absurd ((iN_le (by omega) (by omega) (by omega) (by omega)).mp c) (by omega), fun _ => c_isIn (by omega) hm.1 hm.2 (by omega) ?_⟩
            rw [toI_int, b2i_z]
            refine ⟨fun c2 => ?_, fun c2 => c_slot (by omega) ?_⟩
            · rw [iN_add, sunP_next (fun j h1 h2 h3 => c2 h3.2)]
              exact ih
            · rw [show (s : Int) * 6 + k = ((6 * s + k : Nat) : Int) by push_cast; omega, toI_int, iN_clN (by omega), setR_same]
              have e7 : sunP C s k 7 (6 * s + k) = C 7 (6 * s + k) := (sunP_at C s k).resolve_right (by omega)
              have hde := hV.de (6 * s + k) (by omega)
              have hg := grownC_rng hu.1 hu.2 hde.1 hde.2
              rw [e7]
              refine ⟨iN_in (by omega) (by omega) (by omega), c_grown (by omega) (by rw [setR_same]; exact hVs s k) hde.1 hde.2 ?_⟩
              rw [setR_same, sunP_0 C s k (show 13 ≠ 14 by decide), toI_int]
              refine ⟨iN_in (by omega) (by omega) (by omega), ?_⟩
              rw [upd3_setR, setR_same, setR_setR, iN_small (by omega) (by omega), iN_add, sunP_step (by rw [hq]; omega) (by omega) c2]
              exact ih2
        refine b_Choir_keepSunday_24 (by omega) ?_
        rw [setR_same, sunP_0 C s 0 (by decide), hn]
        exact ⟨fun c => absurd ((iN_le (by omega) (by omega) (by omega) (by omega)).mp c) (by omega), fun _ => key2 0 (by omega)⟩
    have e0 : upd2 C 0 14 (C 0 14 + 1) = sunP C 0 0 := by
      funext c' i
      unfold upd2 sunP
      rw [if_neg (show ¬ (c' = 7 ∧ ((i / 6 < 0 ∨ (i / 6 = 0 ∧ i % 6 < 0)) ∧ ((i % 6 : Nat) : Int) < C 4 (i / 6) ∧ inS (C 0 10) (i / 6) = false)) by omega)]
    rw [upd3_setR, setR_same, setR_setR, iN_add, iN_small (by omega) (by omega), e0]
    exact key 0 (by omega)
  · rw [if_neg c] at h; exact h
