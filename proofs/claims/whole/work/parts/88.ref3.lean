theorem c_grownM {l : Launch} {E : EnvT} {d : Nat} {K : AV → Mem → Prop} {M : Mem} {C Z : Ch} {A : Nat → Int} {x : Int} (hd : 2 ≤ d) (hV : VB C) (hR : A (0 + 1) = C 0 13) (h1 : 0 ≤ x) (h2 : x ≤ 999) (h : K (.int (iN (grownC (C 0 13) x)), 0) (zA M Z A)) : CT l E d m_Mod_grown [(.ref 24, 41), (.int (iN x), 0)] (zA M Z A) K := by
  refine CT.of pn_Mod (Nat.le_of_ble_eq_true rfl) ?_
  have hh := hV.hum
  have hm := mul_rng hh.1 hh.2 h1 h2
  refine b_Mod_grown_0 (by omega) ?_
  unfold grownC at h
  simp only [zA_1]
  rw [clA (z := 1) (j := 0 + 1) (by omega) (by omega), hR, iN_eq0 (a := x) (by omega) (by omega), iN_eq0 (a := C 0 13) (by omega) (by omega), iN_mul, iN_div (by omega) (by omega) (by omega) (by omega)]
  refine ⟨fun c => ?_, fun c => ⟨inA (by omega) (by omega), fun c2 => ⟨inA (by omega) (by omega), by decide +kernel, c_max (by omega) (by omega) (by omega) (by omega) (by omega) ?_⟩, fun c2 => ?_⟩⟩
  · rw [if_pos (Or.inl c)] at h; exact h
  · rw [if_neg (by omega)] at h
    rw [toI_int, iN_add]
    exact c_min (by omega) (by omega) (by omega) (by omega) (by omega) h
  · rw [if_pos (Or.inr c2)] at h; exact h
theorem sunP_00 (C : Ch) : sunP C 0 0 = upd2 C 0 14 (C 0 14 + 1) := by
  funext c i
  unfold sunP upd2
  rw [if_neg (by omega)]
theorem c_sundays {l : Launch} {E : EnvT} {d : Nat} {K : AV → Mem → Prop} {M : Mem} {C Z : Ch} {A : Nat → Int} (hd : 3 ≤ d) (hB : Z 0 21 = 0) (hW : WC C) (hR : RR C A 0) (h : ∀ A', RR (sunC C).2 A' 0 → FrA 0 A A' → K (.int (iN (b2i (sunC C).1)), 0) (zA M Z A')) : CT l E d m_Mod_sundays [(.ref 24, 41)] (zA M Z A) K := by
  refine CT.of pn_Mod (Nat.le_of_ble_eq_true rfl) ?_
  have hV := hW.1
  have hn := hV.n
  have hs := hV.sun
  have hh := hV.hum
  refine b_Mod_sundays_0 (by omega) ?_
  unfold sunC at h
  simp only [zA_1, zA_u]
  rw [clA (z := 2) (j := 0 + 2) (by omega) (by omega), hR.1.2.2.1, iN_eq (by omega) (by omega) (by omega) (by omega)]
  refine ⟨inA (by omega) (by omega), fun c => ⟨inA (by omega) (by omega), inA (by omega) (by omega), ?_⟩, fun c => ⟨z01, ?_⟩⟩
  · rw [if_pos (show C 0 14 < 9999 by omega)] at h
    rw [iN_add, iN_small (by omega) (by omega)]
    have vs : ∀ s k, VB (sunP C s k) := fun s k => VB_sun hV (by omega) s k
    obtain ⟨n, hnn⟩ : ∃ n : Nat, C 0 8 = n := ⟨(C 0 8).toNat, (by omega)⟩
    rw [hnn, show ((n : Int)).toNat = n from rfl] at h
    have e4 : ∀ s k, sunP C s k 4 = C 4 := fun s k => sunP_c C s k (by decide) (by decide)
    have e6 : ∀ s k, sunP C s k 6 = C 6 := fun s k => sunP_c C s k (by decide) (by decide)
    have e8 : ∀ s k, sunP C s k 0 8 = C 0 8 := fun s k => sunP_0 C s k (by decide)
    have e10 : ∀ s k, sunP C s k 0 10 = C 0 10 := fun s k => sunP_0 C s k (by decide)
    have e13 : ∀ s k, sunP C s k 0 13 = C 0 13 := fun s k => sunP_0 C s k (by decide)
    have outer : ∀ s, s ≤ n → ∀ A', RR (sunP C s 0) A' 0 → FrA 0 A A' → G l E d m_Mod_sundays 26 [(0, (.ref 24, 41)), (1, (.int (iN s), 0))] [] (zA M Z A') K := by
      refine dn n (fun A' r f => ?_) (fun s hs ih A' r f => ?_)
      · refine b_Mod_sundays_26 (by omega) ?_
        simp only [zA_1]
        rw [clA (z := 0) (j := 0 + 0) (by omega) (by omega), r.1.1, e8, hnn]
        exact ⟨inA (by omega) (by omega), fun _ => ⟨o01, h A' r f⟩, fun c => absurd ((iN_le (by omega) (by omega) (by omega) (by omega)).mpr (by omega)) c⟩
      · have le := hV.le s (by omega)
        obtain ⟨q, hq⟩ : ∃ q : Nat, C 4 s = q := ⟨(C 4 s).toNat, (by omega)⟩
        have inner : ∀ k, k ≤ q → ∀ A', RR (sunP C s k) A' 0 → FrA 0 A A' → G l E d m_Mod_sundays 38 [(0, (.ref 24, 41)), (1, (.int (iN s), 0)), (2, (.int (iN k), 0))] [] (zA M Z A') K := by
          refine dn q (fun A' r f => ?_) (fun k hk ih2 A' r f => ?_)
          · refine b_Mod_sundays_38 (by omega) (c_of (B := 0) (w := 1) (by omega) hB (by omega) (by omega) (by omega) ?_)
            rw [(r.2.1 s (by rw [e8]; omega)).2.1, e4, hq, toI_int, iN_add]
            refine ⟨fun _ => ih A' ?_ f, fun c => absurd ((iN_le (by omega) (by omega) (by omega) (by omega)).mpr (by omega)) c⟩
            rw [sunP_next (k := q) (fun j j1 j2 x => by omega)] at r
            exact r
          · have cb : iN (b2i (inS (C 0 10) s)) = 0 ↔ inS (C 0 10) s = false := b2i_z _
            refine b_Mod_sundays_38 (by omega) (c_of (B := 0) (w := 1) (by omega) hB (by omega) (by omega) (by omega) ?_)
            rw [(r.2.1 s (by rw [e8]; omega)).2.1, e4, hq, toI_int, iN_add, iN_add]
            refine ⟨fun c => absurd ((iN_le (by omega) (by omega) (by omega) (by omega)).mp c) (by omega), fun _ => c_of (B := 0) (w := 4) (by omega) hB (by omega) (by omega) (by omega) ?_⟩
            rw [(r.2.1 s (by rw [e8]; omega)).2.2.2.2.1, e10, toI_int, cb]
            refine ⟨fun c => ih2 A' ?_ f, fun c => c_holderOf (B := 0) (by omega) hB (by omega) (by omega) (by omega) (c_debtAt (B := 0) (by omega) hB (by omega) (by omega) (by omega) ?_)⟩
            · rw [Bool.not_eq_false] at c
              have a1 := sunP_next (C := C) (s := s) (k := k) (fun j j1 j2 x => by rw [c] at x; exact absurd x.2 (by decide))
              have a2 := sunP_next (C := C) (s := s) (k := k + 1) (fun j j1 j2 x => by rw [c] at x; exact absurd x.2 (by decide))
              rw [a2, ← a1]
              exact r
            · have w := r.2.2.2.1 (6 * s + k) (by omega)
              have d7 : sunP C s k 7 (6 * s + k) = C 7 (6 * s + k) := by
                rcases sunP_at C s k with e | e
                · exact e
                · omega
              have de := hV.de (6 * s + k) (by omega)
              have ho := hV.ho (6 * s + k) (by omega)
              have gr := grownC_rng hh.1 hh.2 de.1 de.2
              rw [w.1, w.2, e6, d7, toI_int, toI_int]
              refine c_grownM (by omega) hV (by rw [r.1.2.1, e13]) de.1 de.2 ?_
              rw [toI_int]
              refine c_stands (B := 0) (by omega) hB (by omega) (by omega) (by omega) ho.1 ho.2 gr.1 (by omega) (ih2 _ ?_ (f.tr (FrA_stands (by omega))))
              have r2 := RR_stands (i := 6 * s + k) (who := C 6 (6 * s + k)) (v := grownC (C 0 13) (C 7 (6 * s + k))) (vs s k) r (by omega) ho.1 ho.2
              have e : (if grownC (C 0 13) (C 7 (6 * s + k)) = 0 then -1 else C 6 (6 * s + k)) = sunP C s k 6 (6 * s + k) := by
                rw [e6]
                split
                · rename_i g
                  rw [grownC_0 hh.1 hh.2 de.1 de.2] at g
                  exact ((hW.2.1 (6 * s + k) (by omega)).mpr g).symm
                · rfl
              rw [e, upd2_id, sunP_step (by omega) (by omega) c] at r2
              exact r2
        refine b_Mod_sundays_26 (by omega) ?_
        simp only [zA_1]
        rw [clA (z := 0) (j := 0 + 0) (by omega) (by omega), r.1.1, e8, hnn]
        exact ⟨inA (by omega) (by omega), fun c => absurd ((iN_le (by omega) (by omega) (by omega) (by omega)).mp c) (by omega), fun _ => inner 0 (by omega) A' r f⟩
    have r0 := RR_f (j := 14) (v := C 0 14 + 1) hV hR (by omega) (by omega)
    rw [← sunP_00] at r0
    exact outer 0 (by omega) _ r0 ((FrA.rf 0 A).u _ (by omega) (by omega))
  · rw [if_neg (show ¬ C 0 14 < 9999 by omega)] at h
    exact h A hR (FrA.rf 0 A)
theorem wr_sub (z s : Int) (s1 : 0 ≤ s) (s2 : s < 2147483648) : wr (wr (z + s) - z) = s := by
  unfold wr
  rw [← iN_sub, iN_toInt, iN_sub, show z + s - z = s by omega, iN_small (by omega) s2]
theorem wr_add (z s n : Int) : wr (wr (z + s) + n) = wr (z + (s + n)) := by
  unfold wr
  rw [← iN_add, iN_toInt, iN_add, show z + s + n = z + (s + n) by omega]
theorem pay0 {C : Ch} (hV : VB C) {s b i : Nat} (hd : C 7 i ≠ 0) : takeOffC (handC C s b 0) i 0 = C := by
  have pd := hV.paid
  have e : handC C s b 0 = C := by
    unfold handC
    rw [show C 2 s - 0 = C 2 s by omega, upd2_id, show C 2 b + 0 = C 2 b by omega, upd2_id, show C 0 15 + 0 = C 0 15 by omega, wr_id pd.1 pd.2, upd2_id]
  rw [e]
  unfold takeOffC
  rw [if_neg (by omega), show C 7 i - 0 = C 7 i by omega, upd2_id]
theorem c_coldsM {l : Launch} {E : EnvT} {d : Nat} {K : AV → Mem → Prop} {M : Mem} {C Z : Ch} {A : Nat → Int} {a : Nat} (hd : 7 ≤ d) (hB : Z 0 21 = 0) (hW : WC C) (hR : RR C A 0) (ha : livesB C a = true) (hc : inS (C 0 11) a = false) (h : ∀ A', 0 ≤ (coldC C a).1 → RR (coldC C a).2 A' 0 → FrA 0 A A' → K (.int (iN (coldC C a).1), 0) (zA M Z A')) : CT l E d m_Mod_colds [(.ref 24, 41), (.int (iN a), 0)] (zA M Z A) K := by
  refine CT.of pn_Mod (Nat.le_of_ble_eq_true rfl) ?_
  have hn := hW.1.n
  obtain ⟨ta, la⟩ := livesB_alv ha
  rw [show ((a : Int)).toNat = a from rfl] at la
  unfold coldC at h
  rw [if_pos ⟨ha, by rw [show ((a : Int)).toNat = a from rfl]; exact hc⟩, show ((a : Int)).toNat = a from rfl] at h
  obtain ⟨n, hnn⟩ : ∃ n : Nat, C 0 8 = n := ⟨(C 0 8).toNat, (by omega)⟩
  rw [hnn, show ((n : Int)).toNat = n from rfl] at h
  have z15 : settleC (upd2 (coldF a n 0 C) 0 11 (setB (C 0 11) a)) 0 15 = coldF a n 0 C 0 15 := by
    rw [settleC_c (by omega), upd2_k _ _ (by decide)]
  rw [z15] at h
  have key : ∀ (m b : Nat) (D : Ch) (A' : Nat → Int) (x : Int), b + m = n → WC D → RR D A' 0 → FrA 0 A A' → D 0 8 = n → D 0 11 = C 0 11 → alv D a → 0 ≤ x → x ≤ 999 * b → D 0 15 = wr (C 0 15 + x) → coldF a m b D = coldF a n 0 C → G l E d m_Mod_colds 4 [(0, (.ref 24, 41)), (1, (.int (iN a), 0)), (2, (.int (iN x), 0)), (3, (.int (iN b), 0))] [] (zA M Z A') K := by
    intro m
    induction m with
    | zero =>
      intro b D A' x hb wD r f d8 d11 lD x1 x2 d15 he
      have he : D = coldF a n 0 C := he
      rw [← he] at h
      refine b_Mod_colds_4 (by omega) ?_
      simp only [zA_1]
      rw [clA (z := 0) (j := 0 + 0) (by omega) (by omega), r.1.1, d8]
      refine ⟨inA (by omega) (by omega), fun _ => c_singerRow (by omega) ?_, fun c => absurd ((iN_le (by omega) (by omega) (by omega) (by omega)).mpr (by omega)) c⟩
      rw [toI_int, iN_add, zA_u, clA (j := 0 + 6 + 8 * a + 3) (by omega) (by omega), iN_1I]
      have m11 := wD.1.ms 11 (by omega) (by omega)
      have r2 := RR_cold (t := a) (m' := setB (D 0 11) a) (b := true) wD.1 r (by omega) (fun t => by
        rw [inS_setB m11.1 m11.2 (by omega)]
        by_cases e : t = a
        · simp [e]
        · simp [e])
      have w2 := WC_cold1 (s := a) wD (by omega)
      rw [d11] at r2 w2
      refine ⟨inA (by omega) (by omega), c_fills (B := 0) (by omega) hB (by omega) w2 r2 (fun A3 r3 f3 => ?_)⟩
      have := h A3
      rw [d15, wr_sub _ _ x1 (by omega)] at this
      exact this x1 r3 ((f.u _ (by omega) (by omega)).tr f3)
    | succ m ih =>
      intro b D A' x hb wD r f d8 d11 lD x1 x2 d15 he
      have hV := wD.1
      have pa := hV.pu a (by omega)
      have pb := hV.pu b (by omega)
      have dr := debtC_rng hV a (b := b) (by omega)
      have he : coldF a m (b + 1) (if slotOfC D a b = -1 then D else takeOffC (handC D a b (min (D 7 (slotOfC D a b).toNat) (min (D 2 a) (9999 - D 2 b)))) (slotOfC D a b).toNat (min (D 7 (slotOfC D a b).toNat) (min (D 2 a) (9999 - D 2 b)))) = _ := he
      refine b_Mod_colds_4 (by omega) ?_
      simp only [zA_1]
      rw [clA (z := 0) (j := 0 + 0) (by omega) (by omega), r.1.1, d8]
      refine ⟨inA (by omega) (by omega), fun c => absurd ((iN_le (by omega) (by omega) (by omega) (by omega)).mp c) (by omega), fun _ => c_noted (B := 0) (by omega) hB (by omega) hV r (by omega) (by omega) (by omega) (c_of (B := 0) (w := 0) (by omega) hB (by omega) (by omega) (by omega) ?_)⟩
      rw [(r.2.1 a (by omega)).1]
      refine c_of (B := 0) (w := 0) (by omega) hB (by omega) (by omega) (by omega) ?_
      rw [(r.2.1 b (by omega)).1, toI_int, toI_int, toI_int, iN_sub]
      refine c_min (by omega) (by omega) (by omega) (by omega) (by omega) ?_
      rw [toI_int]
      refine c_min (by omega) (by omega) (by omega) (by omega) (by omega) ?_
      rw [toI_int, iN_eq (by omega) (by omega) (by omega) (by omega), iN_eq0 (by omega) (by omega), iN_add]
      have skip : slotOfC D a b = -1 ∨ min (debtC D a b) (min (D 2 a) (9999 - D 2 b)) = 0 → G l E d m_Mod_colds 4 [(0, (.ref 24, 41)), (1, (.int (iN a), 0)), (2, (.int (iN x), 0)), (3, (.int (iN ((b : Int) + 1)), 0))] [] (zA M Z A') K := by
        intro sk
        refine ih (b + 1) D A' x (by omega) wD r f d8 d11 lD x1 (by push_cast; omega) d15 ?_
        by_cases c : slotOfC D a b = -1
        · rw [if_pos c] at he; exact he
        · obtain ⟨i, e, i1, i2, i3, i4, i5⟩ := slotE hV (b := b) (by omega) (by omega) c
          rw [if_neg c, e, show ((i : Int)).toNat = i from rfl] at he
          rcases sk with sk | sk
          · exact absurd sk c
          · rw [debtC_slot e] at sk
            rw [sk, pay0 hV (fun q => i4 ((wD.2.1 i i2).mpr q))] at he
            exact he
      refine ⟨fun c => skip (Or.inl ?_), fun c => ⟨fun c2 => ?_, fun c2 => skip (Or.inr c2)⟩⟩
      · by_cases c2 : slotOfC D a b = -1
        · exact c2
        · obtain ⟨i, e, i1, i2, i3, i4, i5⟩ := slotE hV (b := b) (by omega) (by omega) c2
          have := (wD.2.2.1 i i2 i4).2.2.2.1
          rw [i3, i1] at this
          omega
      · have c3 : slotOfC D a b ≠ -1 := by
          intro q
          rw [debtC_none q] at c2
          omega
        obtain ⟨i, e, i1, i2, i3, i4, i5⟩ := slotE hV (b := b) (by omega) (by omega) c3
        have w2 := wD.2.2.1 i i2 i4
        rw [i1] at w2
        have de := hV.de i i2
        rw [debtC_slot e] at c2 ⊢
        rw [if_neg c3, e, show ((i : Int)).toNat = i from rfl] at he
        generalize hm : min (D 7 i) (min (D 2 a) (9999 - D 2 b)) = p at c2 he
        refine c_paysSome (by omega) hB hV r (by omega) (by omega) e i2 (by omega) (by omega) (by omega) (by omega) (fun A2 r2 f2 => ?_)
        rw [iN_add]
        have wh := wD.hand (a := a) (b := b) (n := p) (by omega) (by omega) lD w2.2.2.2.2.2 (by omega) (by omega) (by omega)
        have e6 : handC D a b p 6 = D 6 := handC_c (by decide) (by decide)
        have e7 : handC D a b p 7 = D 7 := handC_c (by decide) (by decide)
        have z0 : ∀ k, k ≠ 15 → takeOffC (handC D a b p) i p 0 k = D 0 k := by
          intro k hk
          rw [takeOffC_c (by decide) (by decide), handC_0 hk]
        refine ih (b + 1) _ A2 (x + p) (by omega) (WC_takeOff wh i2 (by rw [e6]; exact i4) (by omega) (by rw [e7]; omega)) r2 (f.tr f2) (by rw [z0 8 (by omega), d8]) (by rw [z0 11 (by omega), d11]) (by unfold alv; rw [z0 12 (by omega)]; exact lD) (by omega) (by push_cast; omega) ?_ he
        rw [takeOffC_c (by decide) (by decide)]
        unfold handC
        rw [upd2_same, d15, wr_add]
  refine b_Mod_colds_0 (by omega) (key n 0 C A 0 (by omega) hW hR (FrA.rf 0 A) hnn rfl la (by omega) (by omega) ?_ rfl)
  have pd := hW.1.paid
  rw [show C 0 15 + 0 = C 0 15 by omega, wr_id pd.1 pd.2]
theorem c_inherits {l : Launch} {E : EnvT} {d : Nat} {K : AV → Mem → Prop} {M : Mem} {C Z : Ch} {A : Nat → Int} {s b : Nat} {heir n : Int} (hd : 5 ≤ d) (hB : Z 0 21 = 0) (hV : VB C) (hR : RR C A 0) (hb : (b : Int) < C 0 8) (hh : HR C s heir) (n1 : 1 ≤ n) (n2 : n ≤ 999) (h : ∀ A', RR (inhC C heir b n) A' 0 → FrA 0 A A' → K (.null, 0) (zA M Z A')) : CT l E d m_Mod_inherits [(.ref 24, 41), (.int (iN heir), 0), (.int (iN b), 0), (.int (iN n), 0)] (zA M Z A) K := by
  refine CT.of pn_Mod (Nat.le_of_ble_eq_true rfl) ?_
  have hn := hV.n
  have hr : -1 ≤ heir ∧ heir < 8 := by rcases hh with e | e <;> omega
  refine b_Mod_inherits_0 (by omega) ?_
  unfold inhC at h
  rw [iN_eq (by omega) (by omega) (by omega) (by omega), iN_eq (by omega) (by omega) (by omega) (by omega)]
  refine ⟨fun c => ?_, fun c => ⟨fun c2 => ?_, fun c2 => c_books (B := 0) (by omega) hB (by omega) hV hR (by omega) (by omega) hb n1 n2 (fun A1 r1 f1 => ?_)⟩⟩
  · rw [if_pos (Or.inl c)] at h; exact h A hR (FrA.rf 0 A)
  · rw [if_pos (Or.inr c2)] at h; exact h A hR (FrA.rf 0 A)
  · rw [if_neg (by omega)] at h; exact h A1 r1 f1
