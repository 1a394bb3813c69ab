def coldF (s : Nat) : Nat → Nat → Ch → Ch
  | 0, _, C => C
  | m + 1, b, C => coldF s m (b + 1) (if slotOfC C s b = -1 then C else takeOffC (handC C s b (min (C 7 (slotOfC C s b).toNat) (min (C 2 s) (9999 - C 2 b)))) (slotOfC C s b).toNat (min (C 7 (slotOfC C s b).toNat) (min (C 2 s) (9999 - C 2 b))))
def coldC (C : Ch) (z : Int) : Int × Ch := if livesB C z = true ∧ inS (C 0 11) z.toNat = false then
    (wr (settleC (upd2 (coldF z.toNat (C 0 8).toNat 0 C) 0 11 (setB (C 0 11) z.toNat)) 0 15 - C 0 15), settleC (upd2 (coldF z.toNat (C 0 8).toNat 0 C) 0 11 (setB (C 0 11) z.toNat))) else (-1, C)
theorem coldF_c (s : Nat) {c : Nat} (h0 : c ≠ 0) (h2 : c ≠ 2) (h6 : c ≠ 6) (h7 : c ≠ 7) : ∀ (m b : Nat) (C : Ch), coldF s m b C c = C c
  | 0, _, _ => rfl
  | m + 1, b, C => by
    show coldF s m (b + 1) _ c = _
    rw [coldF_c s h0 h2 h6 h7 m (b + 1)]
    split
    · rfl
    · rw [takeOffC_c h6 h7, handC_c h0 h2]
theorem handC_0 {C : Ch} {a b : Nat} {n : Int} {j : Nat} (h : j ≠ 15) : handC C a b n 0 j = C 0 j := by
  unfold handC
  rw [upd2_k _ _ h, upd2_c _ _ (show 0 ≠ 2 by decide), upd2_c _ _ (show 0 ≠ 2 by decide)]
theorem coldF_0 (s : Nat) {j : Nat} (h : j ≠ 15) : ∀ (m b : Nat) (C : Ch), coldF s m b C 0 j = C 0 j
  | 0, _, _ => rfl
  | m + 1, b, C => by
    show coldF s m (b + 1) _ 0 j = _
    rw [coldF_0 s h m (b + 1)]
    split
    · rfl
    · rw [takeOffC_c (by decide) (by decide), handC_0 h]
theorem VB_coldStep {C : Ch} {s b i : Nat} (hV : VB C) (hs : s < 8) (hb : b < 8) (hi : i < 48) : VB (takeOffC (handC C s b (min (C 7 i) (min (C 2 s) (9999 - C 2 b)))) i (min (C 7 i) (min (C 2 s) (9999 - C 2 b)))) := by
  have d1 := hV.de i hi
  have p1 := hV.pu s hs
  have p2 := hV.pu b hb
  exact VB_takeOff (VB_hand hV hs hb (by omega) (by omega) (by omega)) hi (by omega) (by rw [handC_c (by decide) (by decide)]; omega)
theorem VB_coldF {s : Nat} (hs : s < 8) : ∀ (m b : Nat) {C : Ch}, b + m ≤ 8 → VB C → VB (coldF s m b C)
  | 0, _, _, _, h => h
  | m + 1, b, C, hb, h => by
    show VB (coldF s m (b + 1) _)
    refine VB_coldF hs m (b + 1) (by omega) ?_
    split
    · exact h
    · rename_i hne
      rcases slotOf_rng h s (b := b) (by omega) with e | ⟨i, e, -, -, hi, -⟩
      · exact absurd e hne
      · rw [e, show ((i : Int)).toNat = i from rfl]
        exact VB_coldStep h hs (by omega) hi
theorem c_catchCold {l : Launch} {E : EnvT} {d : Nat} {K : AV → Mem → Prop} {M : Mem} {r : Nat} {C : Ch} {z : Int} (hd : 3 ≤ d) (hV : VB C) (h1 : -2147483648 ≤ z) (h2 : z < 2147483648) (h : K (.int (iN (coldC C z).1), 0) (setR M r (coldC C z).2)) : CT l E d m_Choir_catchCold [(.ref r, 11), (.int (iN z), 0)] (setR M r C) K := by
  refine CT.of pn_Choir (Nat.le_of_ble_eq_true rfl) ?_
  refine b_Choir_catchCold_0 (by omega) (c_livesS (by omega) hV h1 h2 ?_)
  unfold coldC at h
  rw [toI_int, b2i_z]
  refine ⟨fun c => ?_, fun c => ?_⟩
  · rw [if_neg (by simp [c])] at h; exact h
  · rw [Bool.not_eq_false] at c
    have t1 := livesB_spec c
    have hn0 := hV.n
    obtain ⟨s, rfl⟩ : ∃ s : Nat, z = s := ⟨z.toNat, (by omega)⟩
    obtain ⟨n, hn⟩ : ∃ n : Nat, C 0 8 = n := ⟨(C 0 8).toNat, (by omega)⟩
    have hm := hV.ms 11 (by omega) (by omega)
    rw [setR_same]
    refine c_isIn (by omega) hm.1 hm.2 (by omega) ?_
    rw [toI_int, b2i_z]
    simp only [show ((s : Int)).toNat = s from rfl, hn, show ((n : Int)).toNat = n from rfl] at h
    refine ⟨fun c2 => ?_, fun c2 => ?_⟩
    · rw [if_pos ⟨c, c2⟩] at h
      have hs8 : s < 8 := (by omega)
      have hVF : ∀ m b D, b + m = n → VB D → VB (coldF s m b D) := fun m b D hb hD => VB_coldF hs8 m b (by omega) hD
      have key : ∀ (m b : Nat) (D : Ch), b + m = n → VB D → D 0 8 = n → D 0 11 = C 0 11 → coldF s n 0 C = coldF s m b D → G l E d m_Choir_catchCold 28 [(0, (.ref r, 11)), (1, (.int (iN s), 0)), (2, (.int (iN (C 0 15)), 0)), (3, (.int (iN b), 0))] [] (setR M r D) K := by
        intro m
        induction m with
        | zero =>
          intro b D hb hD hD8 hD11 he
          refine b_Choir_catchCold_28 (by omega) ?_
          simp only [setR_same, hD8, hD11]
          refine ⟨fun _ => ?_, fun c => absurd ((iN_le (by omega) (by omega) (by omega) (by omega)).mpr (by omega)) c⟩
          have hsb := setB_rng hm.1 hm.2 hs8
          rw [or_bit hm.1 hm.2 hs8, upd3_setR, setR_same, setR_setR, iN_small (by omega) (by omega)]
          refine c_settle (by omega) (VB_f11 hD hsb.1 hsb.2) ?_
          rw [he] at h
          rw [setR_same, iN_sub]
          have e9 : ∀ z : Int, iN (wr z) = iN z := fun z => iN_toInt _
          rw [e9] at h
          exact h
        | succ m ih =>
          intro b D hb hD hD8 hD11 he
          refine b_Choir_catchCold_28 (by omega) ?_
          simp only [setR_same, hD8]
          refine ⟨fun c => absurd ((iN_le (by omega) (by omega) (by omega) (by omega)).mp c) (by omega), fun _ => c_slotOfS (by omega) hD (by omega) (by omega) (by omega) ?_⟩
          have he' := he
          simp only [coldF] at he'
          rcases slotOf_rng hD s (b := b) (by omega) with e | ⟨i, e, -, -, hi, -⟩
          · rw [e, toI_int]
            rw [if_pos e] at he'
            rw [iN_add]
            exact ⟨fun _ => ih (b + 1) D (by omega) hD hD8 hD11 he', fun c => absurd rfl c⟩
          · rw [e, if_neg (by omega), show ((i : Int)).toNat = i from rfl] at he'
            have d1 := hD.de i hi
            have p1 := hD.pu s hs8
            have p2 := hD.pu b (by omega)
            simp only [e, toI_int, setR_same, iN_add, iN_sub, iN_clN (show (s : Int) < 2147483648 by omega), iN_clN (show (b : Int) < 2147483648 by omega), iN_clN (show (i : Int) < 2147483648 by omega)]
            rw [iN_eq (by omega) (by omega) (by omega) (by omega)]
            refine ⟨fun c => absurd c (by omega), fun _ => ⟨iN_in (by omega) (by omega) (by omega), iN_in (by omega) (by omega) (by omega), iN_in (by omega) (by omega) (by omega), c_min (by omega) (by omega) (by omega) (by omega) (by omega) (c_min (by omega) (by omega) (by omega) (by omega) (by omega) ?_)⟩⟩
            simp only [toI_int]
            refine c_handOver (by omega) hD hs8 (by omega) (by omega) (by omega) (by omega) (c_takeOff (by omega) (VB_hand hD hs8 (by omega) (by omega) (by omega) (by omega)) hi (by omega) (by rw [handC_c (by decide) (by decide)]; omega) ?_)
            refine ih (b + 1) _ (by omega) (VB_coldStep hD hs8 (by omega) hi) ?_ ?_ he'
            · rw [takeOffC_c (by decide) (by decide), handC_0 (by decide)]; exact hD8
            · rw [takeOffC_c (by decide) (by decide), handC_0 (by decide)]; exact hD11
      have := key n 0 C (by omega) hV hn rfl rfl
      rw [setR_same]
      exact this
    · rw [if_neg (by simp [c2])] at h; exact h
theorem VB_cold {C : Ch} {z : Int} (hV : VB C) : VB (coldC C z).2 := by
  unfold coldC
  split
  · rename_i h
    have t1 := livesB_spec h.1
    have hn0 := hV.n
    have hm := hV.ms 11 (by omega) (by omega)
    have hsb := setB_rng (s := z.toNat) hm.1 hm.2 (by omega)
    exact VB_settle (VB_f11 (VB_coldF (by omega) _ 0 (by omega) hV) hsb.1 hsb.2)
  · exact hV
/-- the HEIR's part, or none -/
def inhC (C : Ch) (heir : Int) (b : Nat) (n : Int) : Ch := if heir = -1 ∨ heir = b then C else (oweC C heir b n).2
theorem VB_inh {C : Ch} {heir : Int} {b : Nat} {n : Int} (hV : VB C) (a1 : -1 ≤ heir) (a2 : heir < 8) (hb : b < 8) (h1 : 0 ≤ n) (h2 : n ≤ 999) : VB (inhC C heir b n) := by
  unfold inhC
  split
  · exact hV
  · exact VB_owe hV (by omega) a2 hb h1 h2
theorem inhC_c {C : Ch} {heir : Int} {b : Nat} {n : Int} {c : Nat} (h : c ≠ 6 ∧ c ≠ 7 ∧ c ≠ 8 ∧ c ≠ 9 ∧ c ≠ 10 ∧ c ≠ 11) : inhC C heir b n c = C c := by
  unfold inhC
  split
  · rfl
  · exact oweC_c h
def passF (s : Nat) (heir : Int) : Nat → Nat → Ch → Ch
  | 0, _, C => C
  | m + 1, b, C => passF s heir m (b + 1) (if slotOfC C s b = -1 then C else inhC (takeOffC C (slotOfC C s b).toNat (C 7 (slotOfC C s b).toNat)) heir b (C 7 (slotOfC C s b).toNat))
theorem VB_passF {s : Nat} {heir : Int} (a1 : -1 ≤ heir) (a2 : heir < 8) : ∀ (m b : Nat) {C : Ch}, b + m ≤ 8 → VB C → VB (passF s heir m b C)
  | 0, _, _, _, h => h
  | m + 1, b, C, hb, h => by
    show VB (passF s heir m (b + 1) _)
    refine VB_passF a1 a2 m (b + 1) (by omega) ?_
    split
    · exact h
    · rename_i hne
      rcases slotOf_rng h s (b := b) (by omega) with e | ⟨i, e, -, -, hi, -⟩
      · exact absurd e hne
      · rw [e, show ((i : Int)).toNat = i from rfl]
        have := h.de i hi
        exact VB_inh (VB_takeOff h hi (by omega) (by omega)) a1 a2 (by omega) (by omega) (by omega)
theorem passF_c {s : Nat} {heir : Int} {c : Nat} (h : c ≠ 6 ∧ c ≠ 7 ∧ c ≠ 8 ∧ c ≠ 9 ∧ c ≠ 10 ∧ c ≠ 11) : ∀ (m b : Nat) (C : Ch), passF s heir m b C c = C c
  | 0, _, _ => rfl
  | m + 1, b, C => by
    show passF s heir m (b + 1) _ c = _
    rw [passF_c h m (b + 1)]
    split
    · rfl
    · rw [inhC_c h, takeOffC_c h.1 h.2.1]
theorem c_passOnHeld {l : Launch} {E : EnvT} {d : Nat} {K : AV → Mem → Prop} {M : Mem} {r : Nat} {C : Ch} {s n : Nat} {heir : Int} (hd : 3 ≤ d) (hV : VB C) (hs : s < 8) (hn : C 0 8 = n) (a1 : -1 ≤ heir) (a2 : heir < 8) (h : K (.null, 0) (setR M r (passF s heir n 0 C))) : CT l E d m_Choir_passOnHeld [(.ref r, 11), (.int (iN s), 0), (.int (iN heir), 0)] (setR M r C) K := by
  refine CT.of pn_Choir (Nat.le_of_ble_eq_true rfl) ?_
  refine b_Choir_passOnHeld_0 (by omega) ?_
  have hn0 := hV.n
  have key : ∀ (m b : Nat) (D : Ch), b + m = n → VB D → D 0 8 = n → passF s heir n 0 C = passF s heir m b D → G l E d m_Choir_passOnHeld 2 [(0, (.ref r, 11)), (1, (.int (iN s), 0)), (2, (.int (iN heir), 0)), (3, (.int (iN b), 0))] [] (setR M r D) K := by
    intro m
    induction m with
    | zero =>
      intro b D hb hD hD8 he
      refine b_Choir_passOnHeld_2 (by omega) ?_
      rw [setR_same, hD8]
      rw [he] at h
      exact ⟨fun _ => h, fun c => absurd ((iN_le (by omega) (by omega) (by omega) (by omega)).mpr (by omega)) c⟩
    | succ m ih =>
      intro b D hb hD hD8 he
      refine b_Choir_passOnHeld_2 (by omega) ?_
      rw [setR_same, hD8]
      refine ⟨fun c => absurd ((iN_le (by omega) (by omega) (by omega) (by omega)).mp c) (by omega), fun _ => c_slotOfS (by omega) hD (by omega) (by omega) (by omega) ?_⟩
      have he' := he
      simp only [passF] at he'
      rcases slotOf_rng hD s (b := b) (by omega) with e | ⟨i, e, -, -, hi, -⟩
      · rw [e, toI_int]
        rw [if_pos e] at he'
        rw [iN_add]
        exact ⟨fun _ => ih (b + 1) D (by omega) hD hD8 he', fun c => absurd rfl c⟩
      · rw [e, if_neg (by omega), show ((i : Int)).toNat = i from rfl] at he'
        have d1 := hD.de i hi
        simp only [e, toI_int, setR_same, iN_add, iN_clN (show (i : Int) < 2147483648 by omega)]
        rw [iN_eq (by omega) (by omega) (by omega) (by omega), iN_eq (by omega) (by omega) (by omega) (by omega), iN_eq (by omega) (by omega) (by omega) (by omega)]
        have hV2 := VB_takeOff (n := D 7 i) hD hi (by omega) (by omega)
        have e8 : takeOffC D i (D 7 i) 0 8 = n := by rw [takeOffC_c (by decide) (by decide)]; exact hD8
        unfold inhC at he'
        refine ⟨fun c => absurd c (by omega), fun _ => ⟨iN_in (by omega) (by omega) (by omega), c_takeOff (by omega) hD hi (by omega) (by omega) ⟨fun c => ?_, fun c => ⟨fun c2 => ?_, fun c2 => ?_⟩⟩⟩⟩
        · rw [if_pos (Or.inl c)] at he'
          exact ih (b + 1) _ (by omega) hV2 e8 he'
        · rw [if_pos (Or.inr c2)] at he'
          exact ih (b + 1) _ (by omega) hV2 e8 he'
        · rw [if_neg (by omega)] at he'
          obtain ⟨y, rfl⟩ : ∃ y : Nat, heir = y := ⟨heir.toNat, (by omega)⟩
          refine c_owe (by omega) hV2 (by omega) (by omega) (by omega) (by omega) (ih (b + 1) _ (by omega) (VB_owe hV2 (by omega) (by omega) (by omega) (by omega) (by omega)) ?_ he')
          rw [oweC_c (by omega)]; exact e8
  exact key n 0 C (by omega) hV hn rfl
def passW (s : Nat) (heir : Int) : Nat → Nat → Ch → Ch
  | 0, _, C => C
  | f + 1, k, C => if (k : Int) < C 8 3 then (if C 9 k = s then passW s heir f k (inhC (leaveC C k) heir (C 10 k).toNat (C 11 k)) else passW s heir f (k + 1) C) else C
theorem VB_passW {s : Nat} {heir : Int} (a1 : -1 ≤ heir) (a2 : heir < 8) : ∀ (f k : Nat) {C : Ch}, VB C → VB (passW s heir f k C)
  | 0, _, _, h => h
  | f + 1, k, C, h => by
    unfold passW
    split
    · have hw := h.w
      have b2 := h.wb k (by omega)
      have b3 := h.wm k (by omega)
      split
      · exact VB_passW a1 a2 f k (VB_inh (VB_leave h k (by omega)) a1 a2 (by omega) (by omega) (by omega))
      · exact VB_passW a1 a2 f (k + 1) h
    · exact h
theorem passW_c {s : Nat} {heir : Int} {c : Nat} (h : c ≠ 6 ∧ c ≠ 7 ∧ c ≠ 8 ∧ c ≠ 9 ∧ c ≠ 10 ∧ c ≠ 11) : ∀ (f k : Nat) (C : Ch), passW s heir f k C c = C c
  | 0, _, _ => rfl
  | f + 1, k, C => by
    unfold passW
    split
    · split
      · rw [passW_c h f k, inhC_c h, leaveC_c h.2.2]
      · exact passW_c h f (k + 1) C
    · rfl
theorem c_passOnWaiting {l : Launch} {E : EnvT} {d : Nat} {K : AV → Mem → Prop} {M : Mem} {r : Nat} {C : Ch} {s : Nat} {heir : Int} (hd : 3 ≤ d) (hV : VB C) (hs : s < 8) (a1 : -1 ≤ heir) (a2 : heir < 8) (h : K (.null, 0) (setR M r (passW s heir 8 0 C))) : CT l E d m_Choir_passOnWaiting [(.ref r, 11), (.int (iN s), 0), (.int (iN heir), 0)] (setR M r C) K := by
  refine CT.of pn_Choir (Nat.le_of_ble_eq_true rfl) ?_
  refine b_Choir_passOnWaiting_0 (by omega) ?_
  generalize hX : passW s heir 8 0 C = X at h
  have key : ∀ (f t k : Nat) (D : Ch), t + f = 8 → k ≤ t → VB D → X = passW s heir f k D → G l E d m_Choir_passOnWaiting 5 [(0, (.ref r, 11)), (1, (.int (iN s), 0)), (2, (.int (iN heir), 0)), (3, (.int (iN k), 0)), (4, (.int (iN t), 0))] [] (setR M r D) K := by
    intro f
    induction f with
    | zero =>
      intro t k D ht hk hD he
      rw [he] at h
      exact b_Choir_passOnWaiting_5 (by omega) ⟨fun _ => h, fun c => absurd ((iN_le (by omega) (by omega) (by omega) (by omega)).mpr (by omega)) c⟩
    | succ f ih =>
      intro t k D ht hk hD he
      refine b_Choir_passOnWaiting_5 (by omega) ?_
      have hw := hD.w
      have b1 := hD.wa k (by omega)
      have b2 := hD.wb k (by omega)
      have b3 := hD.wm k (by omega)
      simp only [setR_same, iN_clN (show (k : Int) < 2147483648 by omega), iN_add]
      refine ⟨fun c => absurd ((iN_le (by omega) (by omega) (by omega) (by omega)).mp c) (by omega), fun _ => ⟨fun c => ?_, fun c => ⟨iN_in (by omega) (by omega) (by omega), ?_⟩⟩⟩
      · rw [iN_le (by omega) (by omega) (by omega) (by omega)] at c
        rw [he] at h
        unfold passW at h
        rw [if_neg (by omega)] at h
        exact h
      · rw [iN_le (by omega) (by omega) (by omega) (by omega)] at c
        unfold passW at he
        rw [if_pos (by omega)] at he
        rw [iN_eq (by omega) (by omega) (by omega) (by omega)]
        refine ⟨fun c2 => ?_, fun c2 => ?_⟩
        · rw [if_neg c2] at he
          exact ih (t + 1) (k + 1) D (by omega) (by omega) hD he
        · rw [if_pos c2] at he
          obtain ⟨y, hy⟩ : ∃ y : Nat, D 10 k = y := ⟨(D 10 k).toNat, (by omega)⟩
          rw [hy, show ((y : Int)).toNat = y from rfl] at he
          rw [hy, iN_eq (by omega) (by omega) (by omega) (by omega), iN_eq (by omega) (by omega) (by omega) (by omega)]
          unfold inhC at he
          have hV2 := VB_leave hD k (by omega)
          refine ⟨iN_in (by omega) (by omega) (by omega), iN_in (by omega) (by omega) (by omega), c_leave (by omega) hD (by omega) ⟨fun c3 => ?_, fun c3 => ⟨fun c4 => ?_, fun c4 => ?_⟩⟩⟩
          · rw [if_pos (Or.inl c3)] at he
            exact ih (t + 1) k _ (by omega) (by omega) hV2 he
          · rw [if_pos (Or.inr c4)] at he
            exact ih (t + 1) k _ (by omega) (by omega) hV2 he
          · rw [if_neg (by omega)] at he
            obtain ⟨x, rfl⟩ : ∃ x : Nat, heir = x := ⟨heir.toNat, (by omega)⟩
            exact c_owe (by omega) hV2 (by omega) (by omega) (by omega) (by omega) (ih (t + 1) k _ (by omega) (by omega) (VB_owe hV2 (by omega) (by omega) (by omega) (by omega) (by omega)) he)
  exact key 8 0 0 C rfl (Nat.le_refl 0) hV hX.symm
def forgL (s : Nat) : Nat → Nat → Ch → Ch
  | 0, _, C => C
  | m + 1, k, C => forgL s m (k + 1) (takeOffC C (6 * s + k) (C 7 (6 * s + k)))
def forgW (s : Nat) : Nat → Nat → Ch → Ch
  | 0, _, C => C
  | f + 1, k, C => if (k : Int) < C 8 3 then (if C 10 k = s then forgW s f k (leaveC C k) else forgW s f (k + 1) C) else C
theorem VB_forgL {s : Nat} (hs : s < 8) : ∀ (m k : Nat) {C : Ch}, k + m ≤ 6 → VB C → VB (forgL s m k C)
  | 0, _, _, _, h => h
  | m + 1, k, C, hk, h => VB_forgL hs m (k + 1) (by omega) (VB_takeOff h (by omega) (h.de (6 * s + k) (by omega)).1 (Int.le_refl _))
theorem forgL_c {s : Nat} {c : Nat} (h6 : c ≠ 6) (h7 : c ≠ 7) : ∀ (m k : Nat) (C : Ch), forgL s m k C c = C c
  | 0, _, _ => rfl
  | m + 1, k, C => by
    show forgL s m (k + 1) _ c = _
    rw [forgL_c h6 h7 m (k + 1), takeOffC_c h6 h7]
theorem VB_forgW {s : Nat} : ∀ (f k : Nat) {C : Ch}, VB C → VB (forgW s f k C)
  | 0, _, _, h => h
  | f + 1, k, C, h => by
    unfold forgW
    split
    · split
      · exact VB_forgW f k (VB_leave h k (by omega))
      · exact VB_forgW f (k + 1) h
    · exact h
theorem forgW_c {s : Nat} {c : Nat} (h : c ≠ 8 ∧ c ≠ 9 ∧ c ≠ 10 ∧ c ≠ 11) : ∀ (f k : Nat) (C : Ch), forgW s f k C c = C c
  | 0, _, _ => rfl
  | f + 1, k, C => by
    unfold forgW
    split
    · split
      · rw [forgW_c h f k, leaveC_c h]
      · exact forgW_c h f (k + 1) C
    · rfl
def forgC (C : Ch) (s : Nat) : Ch := forgW s 8 0 (forgL s (C 4 s).toNat 0 C)
theorem VB_forg {C : Ch} {s : Nat} (hV : VB C) (hs : s < 8) : VB (forgC C s) := VB_forgW 8 0 (VB_forgL hs _ 0 (by have := hV.le s hs; omega) hV)
theorem c_forgetLine {l : Launch} {E : EnvT} {d : Nat} {K : AV → Mem → Prop} {M : Mem} {r : Nat} {C : Ch} {s : Nat} (hd : 2 ≤ d) (hV : VB C) (hs : s < 8) (h : K (.null, 0) (setR M r (forgC C s))) : CT l E d m_Choir_forgetLine [(.ref r, 11), (.int (iN s), 0)] (setR M r C) K := by
  refine CT.of pn_Choir (Nat.le_of_ble_eq_true rfl) ?_
  refine b_Choir_forgetLine_0 (by omega) ?_
  have hl := hV.le s hs
  obtain ⟨q, hq⟩ : ∃ q : Nat, C 4 s = q := ⟨(C 4 s).toNat, (by omega)⟩
  unfold forgC at h
  rw [hq, show ((q : Int)).toNat = q from rfl] at h
  generalize hX : forgW s 8 0 (forgL s q 0 C) = X at h
  have key2 : ∀ (f t k : Nat) (D : Ch), t + f = 8 → k ≤ t → VB D → X = forgW s f k D → G l E d m_Choir_forgetLine 41 [(0, (.ref r, 11)), (1, (.int (iN s), 0)), (2, (.int (iN k), 0)), (3, (.int (iN t), 0))] [] (setR M r D) K := by
    intro f
    induction f with
    | zero =>
      intro t k D ht hk hD he
      rw [he] at h
      exact b_Choir_forgetLine_41 (by omega) ⟨fun _ => h, fun c => absurd ((iN_le (by omega) (by omega) (by omega) (by omega)).mpr (by omega)) c⟩
    | succ f ih =>
      intro t k D ht hk hD he
      refine b_Choir_forgetLine_41 (by omega) ?_
      have hw := hD.w
      have b2 := hD.wb k (by omega)
      simp only [setR_same, iN_clN (show (k : Int) < 2147483648 by omega), iN_add]
      refine ⟨fun c => absurd ((iN_le (by omega) (by omega) (by omega) (by omega)).mp c) (by omega), fun _ => ⟨fun c => ?_, fun c => ⟨iN_in (by omega) (by omega) (by omega), ?_⟩⟩⟩
      · rw [iN_le (by omega) (by omega) (by omega) (by omega)] at c
        rw [he] at h
        unfold forgW at h
        rw [if_neg (by omega)] at h
        exact h
      · rw [iN_le (by omega) (by omega) (by omega) (by omega)] at c
        unfold forgW at he
        rw [if_pos (by omega)] at he
        rw [iN_eq (by omega) (by omega) (by omega) (by omega)]
        refine ⟨fun c2 => ?_, fun c2 => c_leave (by omega) hD (by omega) ?_⟩
        · rw [if_neg c2] at he
          exact ih (t + 1) (k + 1) D (by omega) (by omega) hD he
        · rw [if_pos c2] at he
          exact ih (t + 1) k _ (by omega) (by omega) (VB_leave hD k (by omega)) he
  have key1 : ∀ (m k : Nat) (D : Ch), k + m = q → VB D → D 4 s = q → forgL s q 0 C = forgL s m k D → G l E d m_Choir_forgetLine 2 [(0, (.ref r, 11)), (1, (.int (iN s), 0)), (2, (.int (iN k), 0))] [] (setR M r D) K := by
    intro m
    induction m with
    | zero =>
      intro k D hk hD hD4 he
      refine b_Choir_forgetLine_2 (by omega) ?_
      rw [setR_same, iN_clN (by omega), hD4]
      refine ⟨iN_in (by omega) (by omega) (by omega), fun _ => ?_, fun c => absurd ((iN_le (by omega) (by omega) (by omega) (by omega)).mpr (by omega)) c⟩
      exact key2 8 0 0 D rfl (Nat.le_refl 0) hD (by rw [← hX, he]; rfl)
    | succ m ih =>
      intro k D hk hD hD4 he
      refine b_Choir_forgetLine_2 (by omega) ?_
      rw [setR_same, iN_clN (by omega), hD4]
      refine ⟨iN_in (by omega) (by omega) (by omega), fun c => absurd ((iN_le (by omega) (by omega) (by omega) (by omega)).mp c) (by omega), fun _ => c_slot (by omega) (c_slot (by omega) ?_)⟩
      rw [show (s : Int) * 6 + k = ((6 * s + k : Nat) : Int) by push_cast; omega]
      have d1 := hD.de (6 * s + k) (by omega)
      simp only [toI_int, setR_same, iN_clN (show ((6 * s + k : Nat) : Int) < 2147483648 by omega), iN_add]
      refine ⟨iN_in (by omega) (by omega) (by omega), c_takeOff (by omega) hD (by omega) d1.1 (Int.le_refl _) ?_⟩
      exact ih (k + 1) _ (by omega) (VB_takeOff hD (by omega) d1.1 (Int.le_refl _)) (by rw [takeOffC_c (by decide) (by decide)]; exact hD4) he
  exact key1 q 0 C (by omega) hV hq rfl
def heirC (C : Ch) (s : Nat) : Int := if livesB C (C 3 s) = true then C 3 s else -1
def buryC0 (C : Ch) (s : Nat) : Ch := upd2 (if heirC C s = -1 then C else upd2 C 2 (heirC C s).toNat (min 9999 (C 2 (heirC C s).toNat + C 2 s))) 2 s 0
def buryC1 (C : Ch) (s : Nat) : Ch := forgC (passW s (heirC C s) 8 0 (passF s (heirC C s) (C 0 8).toNat 0 (buryC0 C s))) s
def buryC (C : Ch) (z : Int) : Bool × Ch := if livesB C z = true then (true, settleC (upd2 (upd2 (buryC1 C z.toNat) 0 11 (clrB (C 0 11) z.toNat)) 0 12 (setB (C 0 12) z.toNat))) else (false, C)
theorem heirC_rng {C : Ch} (hV : VB C) {s : Nat} (hs : s < 8) : -1 ≤ heirC C s ∧ heirC C s < 8 := by
  unfold heirC
  have := hV.he s hs
  split <;> omega
theorem VB_bury0 {C : Ch} (hV : VB C) {s : Nat} (hs : s < 8) : VB (buryC0 C s) := by
  unfold buryC0
  have hh := heirC_rng hV hs
  have p1 := hV.pu s hs
  split
  · exact VB_2 hV (by omega) (by omega)
  · have p2 := hV.pu (heirC C s).toNat (by omega)
    exact VB_2 (VB_2 hV (by omega) (by omega)) (by omega) (by omega)
theorem buryC0_c {C : Ch} {s c : Nat} (h : c ≠ 2) : buryC0 C s c = C c := by
  unfold buryC0
  rw [upd2_c _ _ h]
  split
  · rfl
  · exact upd2_c _ _ h
theorem buryC1_c {C : Ch} {s c : Nat} (h : c ≠ 2 ∧ c ≠ 6 ∧ c ≠ 7 ∧ c ≠ 8 ∧ c ≠ 9 ∧ c ≠ 10 ∧ c ≠ 11) : buryC1 C s c = C c := by
  unfold buryC1 forgC
  rw [forgW_c h.2.2.2, forgL_c h.2.1 h.2.2.1, passW_c h.2, passF_c h.2, buryC0_c h.1]
theorem VB_bury1 {C : Ch} (hV : VB C) {s : Nat} (hs : s < 8) : VB (buryC1 C s) := by
  have hn := hV.n
  have hh := heirC_rng hV hs
  exact VB_forg (VB_passW hh.1 hh.2 8 0 (VB_passF hh.1 hh.2 _ 0 (by omega) (VB_bury0 hV hs))) hs
theorem VB_bury {C : Ch} {z : Int} (hV : VB C) : VB (buryC C z).2 := by
  unfold buryC
  split
  · rename_i h
    have t1 := livesB_spec h
    have hn0 := hV.n
    have m1 := hV.ms 11 (by omega) (by omega)
    have m2 := hV.ms 12 (by omega) (by omega)
    have s1 := clrB_rng (s := z.toNat) m1.1 m1.2 (by omega)
    have s2 := setB_rng (s := z.toNat) m2.1 m2.2 (by omega)
    exact VB_settle (VB_f12 (VB_f11 (VB_bury1 hV (by omega)) s1.1 s1.2) s2.1 s2.2)
  · exact hV
theorem c_bury {l : Launch} {E : EnvT} {d : Nat} {K : AV → Mem → Prop} {M : Mem} {r : Nat} {C : Ch} {z : Int} (hd : 4 ≤ d) (hV : VB C) (h1 : -2147483648 ≤ z) (h2 : z < 2147483648) (h : K (.int (iN (b2i (buryC C z).1)), 0) (setR M r (buryC C z).2)) : CT l E d m_Choir_bury [(.ref r, 11), (.int (iN z), 0)] (setR M r C) K := by
  refine CT.of pn_Choir (Nat.le_of_ble_eq_true rfl) ?_
  refine b_Choir_bury_0 (by omega) (c_livesS (by omega) hV h1 h2 ?_)
  unfold buryC at h
  rw [toI_int, b2i_z]
  refine ⟨fun c => ?_, fun c => ⟨z01, ?_⟩⟩
  · rw [Bool.not_eq_false] at c
    have t1 := livesB_spec c
    have hn0 := hV.n
    obtain ⟨s, rfl⟩ : ∃ s : Nat, z = s := ⟨z.toNat, (by omega)⟩
    obtain ⟨n, hn⟩ : ∃ n : Nat, C 0 8 = n := ⟨(C 0 8).toNat, (by omega)⟩
    have hs8 : s < 8 := (by omega)
    rw [if_pos c, show ((s : Int)).toNat = s from rfl] at h
    have hh := heirC_rng hV hs8
    have hhe := hV.he s hs8
    have p1 := hV.pu s hs8
    have last : G l E d m_Choir_bury 88 [(0, (.ref r, 11)), (1, (.int (iN s), 0))] [] (setR M r (buryC1 C s)) K := by
      refine b_Choir_bury_88 (by omega) ?_
      have m1 := hV.ms 11 (by omega) (by omega)
      have m2 := hV.ms 12 (by omega) (by omega)
      have s1 := clrB_rng (s := s) m1.1 m1.2 (by omega)
      have s2 := setB_rng (s := s) m2.1 m2.2 (by omega)
      have e0 : buryC1 C s 0 = C 0 := buryC1_c (by decide)
      simp only [upd3_setR, setR_same, setR_setR, e0, clr_bit m1.1 m1.2 hs8, upd2_k _ _ (show 12 ≠ 11 by decide), or_bit m2.1 m2.2 hs8, iN_small (show -2147483648 ≤ clrB (C 0 11) s by omega) (show clrB (C 0 11) s < 2147483648 by omega), iN_small (show -2147483648 ≤ setB (C 0 12) s by omega) (show setB (C 0 12) s < 2147483648 by omega)]
      exact c_settle (by omega) (VB_f12 (VB_f11 (VB_bury1 hV hs8) s1.1 s1.2) s2.1 s2.2) ⟨o01, h⟩
    have chain : CT l E (d - 1) m_Choir_passOnHeld [(.ref r, 11), (.int (iN s), 0), (.int (iN (heirC C s)), 0)] (setR M r (buryC0 C s)) (fun _ M14 => CT l E (d - 1) m_Choir_passOnWaiting [(.ref r, 11), (.int (iN s), 0), (.int (iN (heirC C s)), 0)] M14 (fun _ M15 => CT l E (d - 1) m_Choir_forgetLine [(.ref r, 11), (.int (iN s), 0)] M15 (fun _ M16 => G l E d m_Choir_bury 88 [(0, (.ref r, 11)), (1, (.int (iN s), 0))] [] M16 K))) := by
      have hVa := VB_passF (s := s) hh.1 hh.2 n 0 (by omega) (VB_bury0 hV hs8)
      refine c_passOnHeld (n := n) (by omega) (VB_bury0 hV hs8) hs8 (by rw [buryC0_c (by decide)]; exact hn) hh.1 hh.2 (c_passOnWaiting (by omega) hVa hs8 hh.1 hh.2 (c_forgetLine (by omega) (VB_passW hh.1 hh.2 8 0 hVa) hs8 ?_))
      unfold buryC1 at last
      rw [hn, show ((n : Int)).toNat = n from rfl] at last
      exact last
    simp only [setR_same, iN_clN (show (s : Int) < 2147483648 by omega)]
    refine ⟨iN_in (by omega) (by omega) (by omega), c_livesS (by omega) hV (by omega) (by omega) ?_⟩
    rw [toI_int, b2i_z]
    refine ⟨fun c2 => ⟨fun _ => ⟨iN_in (by omega) (by omega) (by omega), ?_⟩, fun c => absurd trivial c⟩, fun c2 => ⟨iN_in (by omega) (by omega) (by omega), fun c3 => ?_, fun c3 => ?_⟩⟩
    · have eh : heirC C s = -1 := by unfold heirC; rw [if_neg (by simp [c2])]
      have e0 : buryC0 C s = upd2 C 2 s 0 := by unfold buryC0; rw [if_pos eh]
      rw [eh, e0] at chain
      rw [upd3_setR, setR_same, setR_setR, iN_small (by omega) (by omega)]
      exact chain
    · rw [Bool.not_eq_false] at c2
      have t2 := livesB_spec c2
      rw [setR_same, iN_eq (by omega) (by omega) (by omega) (by omega)] at c3
      omega
    · rw [Bool.not_eq_false] at c2
      have t2 := livesB_spec c2
      have eh : heirC C s = C 3 s := by unfold heirC; rw [if_pos c2]
      obtain ⟨y, hy⟩ : ∃ y : Nat, C 3 s = y := ⟨(C 3 s).toNat, (by omega)⟩
      have p2 := hV.pu y (by omega)
      have e0 : buryC0 C s = upd2 (upd2 C 2 y (min 9999 (C 2 y + C 2 s))) 2 s 0 := by
        unfold buryC0
        rw [if_neg (by omega), eh, hy]
        rfl
      rw [eh, e0, hy] at chain
      simp only [setR_same, hy, iN_add, iN_clN (show (y : Int) < 2147483648 by omega)]
      refine ⟨iN_in (by omega) (by omega) (by omega), iN_in (by omega) (by omega) (by omega), c_min (by omega) (by omega) (by omega) (by omega) (by omega) ⟨iN_in (by omega) (by omega) (by omega), iN_in (by omega) (by omega) (by omega), ?_⟩⟩
      simp only [toI_int, upd3_setR, setR_same, setR_setR, iN_small (show -2147483648 ≤ min 9999 (C 2 y + C 2 s) by omega) (show min 9999 (C 2 y + C 2 s) < 2147483648 by omega), iN_small (show -2147483648 ≤ (0 : Int) by omega) (show (0 : Int) < 2147483648 by omega)]
      exact chain
  · rw [if_neg (by simp [c])] at h; exact h
