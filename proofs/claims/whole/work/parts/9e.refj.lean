def okF (T : Ch) (P : Nat → Int) (j used : Nat) : Nat → Bool := fun s => (nAnd (T 2 (P (j - 1)).toNat).toNat used).testBit s
def rcF (T : Ch) (n r j used : Nat) : Nat → (Nat → Int) → Bool × (Nat → Int) := fun s P' => cl (T 2) n r (j + 1) (used ||| 2 ^ s) P'
theorem lays_row {l : Launch} {E : EnvT} {d : Nat} {M : Mem} {K : AV → Mem → Prop} {C Z T : Ch} {A : Nat → Int} {n len : Nat} (hd : 6 ≤ d) (hB : Z 0 21 = 0) (hV : VB C) (hR : RR C A 0) (hn : C 0 8 = n) (hT : LK T C n) (hl : len ≤ n) (hl3 : 2 ≤ len) : ∀ (r j used : Nat) (P : Nat → Int), 1 ≤ j → j + r + 1 = len → PW n j used P → ∀ (f : Nat) (p : Int) (s0 : Nat) (P' : Nat → Int) (Y : Ch), p + 1 + f = n → -1 ≤ p → (s0 : Int) = max (p + 1) (P 0 + 1) → (∀ k, k < j → P' k = P k) → (∀ k, k < j → Y 10 k = P k) → Y 10 j = p → (∀ c, c ≠ 10 → Y c = Z c) → ((clRow (rcF T n r j used) (okF T P j used) j s0 (n - s0) P').1 = true → ∀ Y' : Ch, (∀ k, k < len → Y' 10 k = (clRow (rcF T n r j used) (okF T P j used) j s0 (n - s0) P').2 k) → (∀ c, c ≠ 10 → Y' c = Z c) → K (.int (iN 1), 0) (zA M Y' A)) → ((clRow (rcF T n r j used) (okF T P j used) j s0 (n - s0) P').1 = false → ∀ Y' : Ch, (∀ k, k < j → Y' 10 k = P k) → (∀ c, c ≠ 10 → Y' c = Z c) → G l E d m_Mod_laysRound 9 [(0, (.ref 24, 41)), (1, (.int (iN (len : Int)), 0)), (2, (.int (iN ((j : Int) - 1)), 0))] [] (zA M Y' A) K) → G l E d m_Mod_laysRound 9 [(0, (.ref 24, 41)), (1, (.int (iN (len : Int)), 0)), (2, (.int (iN (j : Int)), 0))] [] (zA M Y A) K := by
  intro r
  have hnn := hV.n
  have n8 : n ≤ 8 := (by omega)
  induction r using Nat.strongRecOn with
  | _ r ihr =>
  intro j used P j1 jr hW f
  have P0 := hW.1 0 (by omega)
  induction f using Nat.strongRecOn with
  | _ f ih =>
  intro p s0 P' Y f1 p1 hs0 e1 e2 e3 e4 hS hF
  have hB' : Y 0 21 = 0 := by rw [e4 0 (by decide)]; exact hB
  have okE : ∀ t, t < n → (okF T P j used t = true ↔ okR C (Y 10) j t) := fun t ht => by
    unfold okF
    rw [ok_iff hV n8 hT hW j1 ht, okR_congr j1 e2]
  have okN : ∀ t, t < n → ¬ okR C (Y 10) j t → okF T P j used t = false := fun t ht q => by
    cases hc : okF T P j used t with
    | false => rfl
    | true => exact absurd ((okE t ht).mp hc) q
  refine b_Mod_laysRound_9 (by omega) ⟨fun c => absurd ((iN_lt0 (by omega) (by omega)).mp c) (by omega), fun _ => r_nextAt (p := p) (by omega) hB' hV hR hn (by omega) e3 p1 (by omega) (fun k hk => by rw [e2 k hk]; exact hW.1 k hk) (fun none => ?_) (fun t t1 t2 t3 t4 => ?_)⟩
  · refine ⟨fun c => absurd rfl c, fun _ => ?_⟩
    have sk := clRow_skip (rc := rcF T n r j used) (ok := okF T P j used) (dep := j) (n - s0) s0 0 P' (fun x x1 x2 => okN x (by omega) (none x (by omega) (by omega)))
    rw [Nat.add_zero] at sk
    have e : clRow (rcF T n r j used) (okF T P j used) j s0 (n - s0) P' = (false, P') := by rw [sk]; rfl
    rw [e] at hF
    have := hF rfl Y e2 e4
    rw [iN_add, show (j : Int) + -1 = j - 1 by omega]
    exact this
  · have tn : t ≠ (P 0).toNat := fun q => by
      have := t3.2 0 (by omega)
      rw [e2 0 (by omega)] at this
      omega
    have y10 : upd2 Y 10 j t 10 0 = P 0 := by rw [upd2_k _ _ (show 0 ≠ j by omega)]; exact e2 0 (by omega)
    have yk : ∀ k, k < j → upd2 Y 10 j t 10 k = P k := fun k hk => by rw [upd2_k _ _ (by omega)]; exact e2 k hk
    have yc : ∀ c, c ≠ 10 → upd2 Y 10 j t c = Z c := fun c hc => by rw [upd2_c _ _ hc]; exact e4 c hc
    have c10 := zA_c M (upd2 Y 10 j t) A (show 10 ≠ 1 by decide)
    simp only [toI_int, iN_sub, iN_add]
    rw [iN_eq (by omega) (by omega) (by omega) (by omega), iN_clN (by omega), iN_small (by omega) (by omega), zA_uo M Y A (show 10 ≠ 1 by decide), c10, cp_0, y10, iN_le (by omega) (by omega) (by omega) (by omega), iN_eq (a := (j : Int)) (by omega) (by omega) (by omega) (by omega)]
    refine ⟨fun _ => ⟨in8 (by omega) (by omega), in8 (by omega) (by omega), fun ge => ?_, fun lt => ?_⟩, fun c => absurd c (by omega)⟩
    · have gt : P 0 < t := (by omega)
      have row : clRow (rcF T n r j used) (okF T P j used) j s0 (n - s0) P' = if (rcF T n r j used t (updP P' j t)).1 then (true, (rcF T n r j used t (updP P' j t)).2) else clRow (rcF T n r j used) (okF T P j used) j (t + 1) (n - (t + 1)) (rcF T n r j used t (updP P' j t)).2 := by
        have sk := clRow_skip (rc := rcF T n r j used) (ok := okF T P j used) (dep := j) (t - s0) s0 (n - t) P' (fun x x1 x2 => okN x (by omega) (t4 x (by omega) (by omega)))
        rw [show t - s0 + (n - t) = n - s0 by omega, show s0 + (t - s0) = t by omega, show n - t = (n - (t + 1)) + 1 by omega] at sk
        rw [sk]
        show (if okF T P j used t then _ else _) = _
        rw [(okE t t2).mpr t3, if_pos rfl]
      have Qk : ∀ k, k < j → updP P' j t k = P k := fun k hk => by rw [updP_ne _ _ (by omega)]; exact e1 k hk
      have Qj : updP P' j t j = t := updP_same _ _ _
      have hW' : PW n (j + 1) (used ||| 2 ^ t) (updP P' j t) := (hW.congr e1).add t2 n8
      rw [row] at hS hF
      by_cases r0 : r = 0
      · subst r0
        have rcv : rcF T n 0 j used t (updP P' j t) = (inS (T 2 t) (P 0).toNat, updP P' j t) := by
          show (inS (T 2 (updP P' j t (j + 1 - 1)).toNat) (updP P' j t 0).toNat, updP P' j t) = _
          rw [show j + 1 - 1 = j by omega, Qj, Qk 0 (by omega)]; rfl
        obtain ⟨b, hb⟩ : ∃ b : Nat, P 0 = b := ⟨(P 0).toNat, (by omega)⟩
        have inv : inS (T 2 t) b = decide (0 < debtC C t b) := by
          rw [(hT.2.2 t t2).2.1, inS_nat, msk_bit _ n n8, decide_eq_true (show b < n by omega), Bool.true_and]
          unfold lkN
          rw [decide_eq_true (show t ≠ b by omega), Bool.true_and]
        rw [hb, show ((b : Int)).toNat = b from rfl] at rcv
        rw [rcv, inv] at hS hF
        have dr := debtC_rng hV (t : Int) (b := b) (by omega)
        refine ⟨fun c => absurd (show (j : Int) = (len : Int) - 1 by omega) c, fun _ => ⟨in8 (by omega) (by omega), ?_⟩⟩
        rw [hb]
        refine c_noted (B := 0) (x := (t : Int)) (s := b) (by omega) (by rw [yc 0 (by decide)]; exact hB) (by omega) hV hR (by omega) (by omega) (by omega) ?_
        rw [toI_int, iN_le0 (by omega) (by omega)]
        refine ⟨fun c => ⟨fun c2 => absurd (show (j : Int) = (len : Int) - 1 by omega) c2, fun _ => ?_⟩, fun c => ⟨o01, ?_⟩⟩
        · rw [decide_eq_false (by omega), if_neg (by simp)] at hS hF
          exact ih (n - (t + 1)) (by omega) t (t + 1) (updP P' j t) _ (by omega) (by omega) (by push_cast; omega) Qk yk (upd2_same _ _ _ _) yc hS hF
        · rw [decide_eq_true (by omega), if_pos rfl] at hS
          refine hS rfl _ (fun k hk => ?_) yc
          show _ = updP P' j t k
          by_cases e : k = j
          · subst e; rw [upd2_same, Qj]
          · rw [yk k (by omega), Qk k (by omega)]
      · obtain ⟨r', rfl⟩ : ∃ r', r = r' + 1 := ⟨r - 1, (by omega)⟩
        refine ⟨fun c => ⟨fun _ => ⟨in8 (by omega) (by omega), ?_⟩, fun c2 => absurd c2 c⟩, fun c => absurd c (by omega)⟩
        have kp := cl_keep (T 2) n (r' + 1) (j + 1) (used ||| 2 ^ t) (updP P' j t)
        rw [cl4 (z := (j : Int) + 1) (j := j + 1) rfl (by omega), iN_m1I, zA_uo M _ A (show 10 ≠ 1 by decide), show (j : Int) + 1 = ((j + 1 : Nat) : Int) from rfl]
        have cle : clRow (rcF T n r' (j + 1) (used ||| 2 ^ t)) (okF T (updP P' j t) (j + 1) (used ||| 2 ^ t)) (j + 1) ((updP P' j t 0).toNat + 1) (n - ((updP P' j t 0).toNat + 1)) (updP P' j t) = rcF T n (r' + 1) j used t (updP P' j t) := rfl
        have q0 := Qk 0 (by omega)
        refine ihr r' (by omega) (j + 1) (used ||| 2 ^ t) (updP P' j t) (by omega) (by omega) hW' n (-1) ((updP P' j t 0).toNat + 1) (updP P' j t) _ (by omega) (by omega) (by rw [q0]; push_cast; omega) (fun _ _ => rfl) (fun k hk => ?_) (upd2_same _ _ _ _) (fun c hc => by rw [upd2_c _ _ hc]; exact yc c hc) ?_ ?_
        · rw [upd2_k _ _ (show k ≠ j + 1 by omega)]
          by_cases e : k = j
          · subst e; rw [upd2_same, Qj]
          · rw [yk k (by omega), Qk k (by omega)]
        · rw [cle]
          intro s1 Y' s2 s3
          rw [s1, if_pos rfl] at hS
          exact hS rfl Y' s2 s3
        · rw [cle]
          intro s1 Y' s2 s3
          rw [s1, if_neg (by simp)] at hS hF
          rw [show ((j + 1 : Nat) : Int) - 1 = (j : Int) by omega]
          exact ih (n - (t + 1)) (by omega) t (t + 1) _ Y' (by omega) (by omega) (by push_cast; omega) (fun k hk => by show (cl (T 2) n (r' + 1) (j + 1) (used ||| 2 ^ t) (updP P' j t)).2 k = _; rw [kp k (by omega), Qk k hk]) (fun k hk => by rw [s2 k (by omega), Qk k hk]) (by rw [s2 j (by omega), Qj]) s3 hS hF
    · exact ih (n - (t + 1)) (by omega) t s0 P' _ (by omega) (by omega) (by omega) e1 yk (upd2_same _ _ _ _) yc hS hF
theorem PW_1 {n t : Nat} {P : Nat → Int} (ht : t < n) (n8 : n ≤ 8) : PW n 1 (2 ^ t) (updP P 0 t) := by
  refine ⟨fun k hk => ?_, pow_lt (by omega), fun x hx => ?_⟩
  · have : k = 0 := (by omega)
    subst this
    rw [updP_same]; omega
  · have := or_a (x := 0) (a := t) (s := x) (by omega) (by omega) hx
    rw [Nat.zero_or, Nat.zero_testBit] at this
    rw [this]
    constructor
    · rintro (e | e)
      · exact ⟨0, (by omega), by rw [updP_same, e]⟩
      · cases e
    · rintro ⟨k, k1, k2⟩
      have : k = 0 := (by omega)
      subst this
      rw [updP_same] at k2
      exact Or.inl (by omega)
theorem r_laysRound {l : Launch} {E : EnvT} {d : Nat} {K : AV → Mem → Prop} {M : Mem} {C Z T : Ch} {A : Nat → Int} {n len : Nat} {P : Nat → Int} (hd : 6 ≤ d) (hB : Z 0 21 = 0) (hV : VB C) (hR : RR C A 0) (hn : C 0 8 = n) (hT : LK T C n) (hl : len ≤ n) (hl3 : 3 ≤ len) (hS : (frS (T 2) n len 0 n P).1 = true → ∀ Y' : Ch, (∀ k, k < len → Y' 10 k = (frS (T 2) n len 0 n P).2 k) → (∀ c, c ≠ 10 → Y' c = Z c) → K (.int (iN 1), 0) (zA M Y' A)) (hF : (frS (T 2) n len 0 n P).1 = false → ∀ Y' : Ch, (∀ c, c ≠ 10 → Y' c = Z c) → K (.int (iN 0), 0) (zA M Y' A)) : CT l E d m_Mod_laysRound [(.ref 24, 41), (.int (iN (len : Int)), 0)] (zA M Z A) K := by
  refine CT.of pn_Mod (Nat.le_of_ble_eq_true rfl) ?_
  have hnn := hV.n
  have n8 : n ≤ 8 := (by omega)
  have key : ∀ (f : Nat) (p : Int) (s : Nat) (P' : Nat → Int) (Y : Ch), p + 1 + f = n → (s : Int) = p + 1 → Y 10 0 = p → (∀ c, c ≠ 10 → Y c = Z c) → frS (T 2) n len 0 n P = frS (T 2) n len s f P' → G l E d m_Mod_laysRound 9 [(0, (.ref 24, 41)), (1, (.int (iN (len : Int)), 0)), (2, (.int (iN ((0 : Nat) : Int)), 0))] [] (zA M Y A) K := by
    intro f
    induction f with
    | zero =>
      intro p s P' Y f1 f2 e3 e4 he
      have hB' : Y 0 21 = 0 := by rw [e4 0 (by decide)]; exact hB
      refine b_Mod_laysRound_9 (by omega) ⟨fun c => absurd ((iN_lt0 (by omega) (by omega)).mp c) (by omega), fun _ => r_nextAt (j := 0) (p := p) (by omega) hB' hV hR hn (by omega) e3 (by omega) (by omega) (fun k hk => by omega) (fun none => ?_) (fun t t1 t2 t3 t4 => by omega)⟩
      refine ⟨fun c => absurd rfl c, fun _ => ?_⟩
      rw [he] at hF
      rw [iN_add]
      refine b_Mod_laysRound_9 (by omega) ⟨fun _ => ⟨z01, hF rfl Y e4⟩, fun c => absurd ((iN_lt0 (by omega) (by omega)).mpr (by omega)) c⟩
    | succ f ih =>
      intro p s P' Y f1 f2 e3 e4 he
      have hB' : Y 0 21 = 0 := by rw [e4 0 (by decide)]; exact hB
      have he : _ = (if (cl (T 2) n (len - 1) 1 (2 ^ s) (updP P' 0 s)).1 then (true, (cl (T 2) n (len - 1) 1 (2 ^ s) (updP P' 0 s)).2) else frS (T 2) n len (s + 1) f (cl (T 2) n (len - 1) 1 (2 ^ s) (updP P' 0 s)).2) := he
      have all : ∀ t, okR C (Y 10) 0 t := fun t => ⟨Or.inl rfl, fun k hk => by omega⟩
      refine b_Mod_laysRound_9 (by omega) ⟨fun c => absurd ((iN_lt0 (by omega) (by omega)).mp c) (by omega), fun _ => r_nextAt (j := 0) (p := p) (by omega) hB' hV hR hn (by omega) e3 (by omega) (by omega) (fun k hk => by omega) (fun none => absurd (all s) (none s (by omega) (by omega))) (fun t t1 t2 t3 t4 => ?_)⟩
      have ts : t = s := by
        by_cases q : s < t
        · exact absurd (all s) (t4 s (by omega) q)
        · omega
      subst ts
      have c10 := zA_c M (upd2 Y 10 0 t) A (show 10 ≠ 1 by decide)
      simp only [toI_int, iN_sub, iN_add]
      rw [iN_eq (by omega) (by omega) (by omega) (by omega), iN_clN (by omega), iN_small (by omega) (by omega), zA_uo M Y A (show 10 ≠ 1 by decide), c10, cp_0, upd2_same, iN_le (by omega) (by omega) (by omega) (by omega), iN_eq (a := ((0 : Nat) : Int)) (by omega) (by omega) (by omega) (by omega)]
      refine ⟨fun _ => ⟨in8 (by omega) (by omega), in8 (by omega) (by omega), fun _ => ⟨fun c => ⟨fun _ => ⟨in8 (by omega) (by omega), ?_⟩, fun c2 => absurd c2 c⟩, fun c => absurd c (by omega)⟩, fun c => absurd (Int.le_refl _) c⟩, fun c => absurd c (by omega)⟩
      rw [cl4 (z := ((0 : Nat) : Int) + 1) (j := 1) rfl (by omega), iN_m1I, zA_uo M _ A (show 10 ≠ 1 by decide), show ((0 : Nat) : Int) + 1 = ((1 : Nat) : Int) from rfl]
      have P0 : updP P' 0 t 0 = t := updP_same _ _ _
      have el : len - 1 = (len - 2) + 1 := (by omega)
      rw [el] at he
      have cle : clRow (rcF T n (len - 2) 1 (2 ^ t)) (okF T (updP P' 0 t) 1 (2 ^ t)) 1 ((updP P' 0 t 0).toNat + 1) (n - ((updP P' 0 t 0).toNat + 1)) (updP P' 0 t) = cl (T 2) n (len - 2 + 1) 1 (2 ^ t) (updP P' 0 t) := rfl
      have kp := cl_keep (T 2) n (len - 2 + 1) 1 (2 ^ t) (updP P' 0 t)
      refine lays_row (by omega) hB hV hR hn hT hl (by omega) (len - 2) 1 (2 ^ t) (updP P' 0 t) (by omega) (by omega) (PW_1 t2 n8) n (-1) ((updP P' 0 t 0).toNat + 1) (updP P' 0 t) _ (by omega) (by omega) (by rw [P0]; push_cast; omega) (fun _ _ => rfl) (fun k hk => ?_) (upd2_same _ _ _ _) (fun c hc => by rw [upd2_c _ _ hc, upd2_c _ _ hc]; exact e4 c hc) ?_ ?_
      · have : k = 0 := (by omega)
        subst this
        rw [upd2_k _ _ (show 0 ≠ 1 by decide), upd2_same, P0]
      · rw [cle]
        intro s1 Y' s2 s3
        rw [s1, if_pos rfl] at he
        rw [he] at hS
        exact hS rfl Y' s2 s3
      · rw [cle]
        intro s1 Y' s2 s3
        rw [s1, if_neg (by simp)] at he
        rw [show ((1 : Nat) : Int) - 1 = ((0 : Nat) : Int) from rfl]
        exact ih t (t + 1) _ Y' (by omega) (by omega) (by rw [s2 0 (by omega), P0]) s3 he
  refine b_Mod_laysRound_0 (by omega) ⟨in8 (by omega) (by omega), ?_⟩
  rw [cp_0, iN_m1I, zA_uo M Z A (show 10 ≠ 1 by decide)]
  exact key n (-1) 0 P _ (by omega) (by omega) (upd2_same _ _ _ _) (fun c hc => upd2_c _ _ hc) rfl
theorem r_roundOf {l : Launch} {E : EnvT} {d : Nat} {K : AV → Mem → Prop} {M : Mem} {C Z T : Ch} {A : Nat → Int} {n : Nat} {P : Nat → Int} (hd : 7 ≤ d) (hB : Z 0 21 = 0) (hV : VB C) (hR : RR C A 0) (hn : C 0 8 = n) (hT : LK T C n) (h0 : (frL (T 2) n 3 (n - 2) P).1 = 0 → ∀ Y' : Ch, (∀ c, c ≠ 10 → Y' c = Z c) → K (.int (iN (-1)), 0) (zA M Y' A)) (hS : ∀ len : Nat, 3 ≤ len → len ≤ n → (frL (T 2) n 3 (n - 2) P).1 = len → ∀ Y' : Ch, (∀ k, k < len → Y' 10 k = (frL (T 2) n 3 (n - 2) P).2 k) → (∀ c, c ≠ 10 → Y' c = Z c) → K (.int (iN (len : Int)), 0) (zA M Y' A)) : CT l E d m_Mod_roundOf [(.ref 24, 41)] (zA M Z A) K := by
  refine CT.of pn_Mod (Nat.le_of_ble_eq_true rfl) ?_
  have hnn := hV.n
  have n8 : n ≤ 8 := (by omega)
  have key : ∀ (m len : Nat) (P' : Nat → Int) (Y : Ch), 3 ≤ len → (m = 0 → n < len) → (m ≠ 0 → len + m = n + 1) → len ≤ 9 → (∀ c, c ≠ 10 → Y c = Z c) → frL (T 2) n 3 (n - 2) P = frL (T 2) n len m P' → G l E d m_Mod_roundOf 2 [(0, (.ref 24, 41)), (1, (.int (iN (len : Int)), 0))] [] (zA M Y A) K := by
    intro m
    induction m with
    | zero =>
      intro len P' Y l1 l2 l3 l4 e4 he
      refine b_Mod_roundOf_2 (by omega) ?_
      simp only [zA_1]
      rw [clA (z := 0) (j := 0 + 0) (by omega) (by omega), hR.1.1, hn]
      rw [he] at h0
      exact ⟨inA (by omega) (by omega), fun _ => h0 rfl Y e4, fun c => absurd ((iN_lt (by omega) (by omega) (by omega) (by omega)).mpr (by have := l2 rfl; omega)) c⟩
    | succ m ih =>
      intro len P' Y l1 l2 l3 l4 e4 he
      have l3 := l3 (by omega)
      have he : _ = (if (frS (T 2) n len 0 n P').1 then ((len : Int), (frS (T 2) n len 0 n P').2) else frL (T 2) n (len + 1) m (frS (T 2) n len 0 n P').2) := he
      refine b_Mod_roundOf_2 (by omega) ?_
      simp only [zA_1]
      rw [clA (z := 0) (j := 0 + 0) (by omega) (by omega), hR.1.1, hn]
      refine ⟨inA (by omega) (by omega), fun c => absurd ((iN_lt (by omega) (by omega) (by omega) (by omega)).mp c) (by omega), fun _ => r_laysRound (P := P') (by omega) (by rw [e4 0 (by decide)]; exact hB) hV hR hn hT (by omega) l1 (fun s1 Y' s2 s3 => ?_) (fun s1 Y' s3 => ?_)⟩
      · refine ⟨fun c => absurd c (by decide +kernel), fun _ => ?_⟩
        rw [s1, if_pos rfl] at he
        rw [he] at hS
        exact hS len l1 (by omega) rfl Y' s2 (fun c hc => by rw [s3 c hc]; exact e4 c hc)
      · refine ⟨fun _ => ?_, fun c => absurd rfl c⟩
        rw [s1, if_neg (by simp)] at he
        rw [iN_add]
        exact ih (len + 1) _ Y' (by omega) (by omega) (by omega) (by omega) (fun c hc => by rw [s3 c hc]; exact e4 c hc) he
  refine b_Mod_roundOf_0 (by omega) (key (n - 2) 3 P Z (by omega) (by omega) (by omega) (by omega) (fun _ _ => rfl) rfl)
theorem r_round {l : Launch} {E : EnvT} {d : Nat} {K : AV → Mem → Prop} {M : Mem} {C Z T : Ch} {A : Nat → Int} {n : Nat} (hd : 8 ≤ d) (hB : Z 0 21 = 0) (hV : VB C) (hR : RR C A 0) (hn : C 0 8 = n) (hT : LK T C n) (h : ∀ Z', ZS Z Z' → K (.int (iN (if (frL (T 2) n 3 (n - 2) (T 4)).1 = 0 then -1 else (frL (T 2) n 3 (n - 2) (T 4)).1)), 0) (zA M (sZ Z' (if (frL (T 2) n 3 (n - 2) (T 4)).1 = 0 then 6 else 0)) A)) : CT l E d m_Mod_round [(.ref 24, 41)] (zA M Z A) K := by
  refine CT.of pn_Mod (Nat.le_of_ble_eq_true rfl) ?_
  have hnn := hV.n
  refine b_Mod_round_0 (by omega) (r_roundOf (P := T 4) (by omega) hB hV hR hn hT (fun s1 Y' s3 => r_orNone (by omega) (by omega) (by omega) ?_) (fun len l1 l2 s1 Y' s2 s3 => r_orNone (by omega) (by omega) (by omega) ?_))
  · have := h Y' (fun c _ hc => s3 c hc)
    rw [s1] at this
    exact this
  · have := h Y' (fun c _ hc => s3 c hc)
    rw [s1, if_neg (by omega), if_neg (by omega)] at this
    unfold ansOr
    rw [if_neg (by omega)]
    exact this
theorem r_roundAt {l : Launch} {E : EnvT} {d : Nat} {K : AV → Mem → Prop} {M : Mem} {C Z T : Ch} {A : Nat → Int} {n : Nat} {x : Int} (hd : 8 ≤ d) (hB : Z 0 21 = 0) (hV : VB C) (hR : RR C A 0) (hn : C 0 8 = n) (hT : LK T C n) (x1 : -2147483648 ≤ x) (x2 : x < 2147483648) (h1 : x < 0 → K (.int (iN (-1)), 0) (zA M (sZ Z 1) A)) (h6 : 0 ≤ x → (frL (T 2) n 3 (n - 2) (T 4)).1 ≤ x → ∀ Z', ZS Z Z' → K (.int (iN (-1)), 0) (zA M (sZ Z' 6) A)) (hy : 0 ≤ x → x < (frL (T 2) n 3 (n - 2) (T 4)).1 → ∀ Z', ZS Z Z' → K (.int (iN ((frL (T 2) n 3 (n - 2) (T 4)).2 x.toNat)), 0) (zA M (sZ Z' 0) A)) : CT l E d m_Mod_roundAt [(.ref 24, 41), (.int (iN x), 0)] (zA M Z A) K := by
  refine CT.of pn_Mod (Nat.le_of_ble_eq_true rfl) ?_
  have hnn := hV.n
  refine b_Mod_roundAt_0 (by omega) ?_
  rw [iN_0le x1 x2]
  refine ⟨fun c => r_roundOf (P := T 4) (by omega) hB hV hR hn hT (fun s1 Y' s3 => ⟨fun _ => r_refuse (by omega) (by omega) (by omega) (h6 c (by omega) Y' (fun c _ hc => s3 c hc)), fun c => absurd rfl c⟩) (fun len l1 l2 s1 Y' s2 s3 => ?_), fun c => r_refuse (by omega) (by omega) (by omega) (h1 (by omega))⟩
  rw [toI_int, iN_eq (by omega) (by omega) (by omega) (by omega), iN_lt x1 x2 (by omega) (by omega)]
  refine ⟨fun c2 => absurd c2 (by omega), fun _ => ⟨fun c3 => ⟨in8 (by omega) (by omega), r_gives (by omega) ?_⟩, fun c3 => r_refuse (by omega) (by omega) (by omega) (h6 c (by omega) Y' (fun c _ hc => s3 c hc))⟩⟩
  obtain ⟨k, rfl⟩ : ∃ k : Nat, x = k := ⟨x.toNat, (by omega)⟩
  have := hy c (by omega) Y' (fun c _ hc => s3 c hc)
  rw [zA_c M Y' A (show 10 ≠ 1 by decide), iN_clN (by omega), s2 k (by omega)]
  exact this
