def PV (C : Ch) (n len : Nat) (P : Nat → Int) : Prop := (∀ k, k < len → 0 ≤ P k ∧ P k < n) ∧ (∀ k k', k < len → k' < len → P k = P k' → k = k') ∧ (∀ k, k + 1 < len → 0 < debtC C (P k) (P (k + 1)).toNat) ∧ 0 < debtC C (P (len - 1)) (P 0).toNat
theorem clRow_ok {rc : Nat → (Nat → Int) → Bool × (Nat → Int)} {ok : Nat → Bool} {dep : Nat} (hk : ∀ s P k, k < dep → (rc s P).2 k = P k) : ∀ (m s : Nat) (P : Nat → Int), (clRow rc ok dep s m P).1 = true → ∃ (t : Nat) (P'' : Nat → Int), s ≤ t ∧ t < s + m ∧ ok t = true ∧ (∀ k, k < dep → P'' k = P k) ∧ (rc t (updP P'' dep t)).1 = true ∧ (clRow rc ok dep s m P).2 = (rc t (updP P'' dep t)).2
  | 0, _, _, h => by cases h
  | m + 1, s, P, h => by
    have e : clRow rc ok dep s (m + 1) P = (if ok s then (if (rc s (updP P dep s)).1 then (true, (rc s (updP P dep s)).2) else clRow rc ok dep (s + 1) m (rc s (updP P dep s)).2) else clRow rc ok dep (s + 1) m P) := rfl
    rw [e] at h ⊢
    by_cases c : ok s = true
    · rw [if_pos c] at h ⊢
      by_cases c2 : (rc s (updP P dep s)).1 = true
      · rw [if_pos c2] at h ⊢
        exact ⟨s, P, (by omega), (by omega), c, fun _ _ => rfl, c2, rfl⟩
      · rw [if_neg c2] at h ⊢
        obtain ⟨t, P'', t1, t2, t3, t4, t5, t6⟩ := clRow_ok hk m (s + 1) _ h
        exact ⟨t, P'', (by omega), (by omega), t3, fun k q => by rw [t4 k q, hk _ _ _ q, updP_ne _ _ (by omega)], t5, t6⟩
    · rw [if_neg c] at h ⊢
      obtain ⟨t, P'', t1, t2, t3, t4, t5, t6⟩ := clRow_ok hk m (s + 1) P h
      exact ⟨t, P'', (by omega), (by omega), t3, t4, t5, t6⟩
theorem cl_ok {C T : Ch} {n : Nat} (hV : VB C) (n8 : n ≤ 8) (hT : LK T C n) : ∀ (r j used : Nat) (P : Nat → Int), 1 ≤ j → PW n j used P → (∀ k k', k < j → k' < j → P k = P k' → k = k') → (∀ k, k + 1 < j → 0 < debtC C (P k) (P (k + 1)).toNat) → (cl (T 2) n r j used P).1 = true → PV C n (j + r) (cl (T 2) n r j used P).2
  | 0, j, used, P, j1, hW, hD, hE, h => by
    have h : inS (T 2 (P (j - 1)).toNat) (P 0).toNat = true := h
    have q0 := hW.1 0 (by omega)
    have q1 := hW.1 (j - 1) (by omega)
    refine ⟨hW.1, hD, hE, ?_⟩
    show 0 < debtC C (P (j + 0 - 1)) (P 0).toNat
    rw [Nat.add_zero]
    obtain ⟨a, ha⟩ : ∃ a : Nat, P (j - 1) = a := ⟨(P (j - 1)).toNat, (by omega)⟩
    rw [ha, show ((a : Int)).toNat = a from rfl, (hT.2.2 a (by omega)).2.1, inS_nat, msk_bit _ n n8, Bool.and_eq_true] at h
    have h2 := h.2
    unfold lkN at h2
    rw [Bool.and_eq_true, decide_eq_true_eq, decide_eq_true_eq] at h2
    rw [ha]
    exact h2.2
  | r + 1, j, used, P, j1, hW, hD, hE, h => by
    have q0 := hW.1 0 (by omega)
    have h : (clRow (rcF T n r j used) (okF T P j used) j ((P 0).toNat + 1) (n - ((P 0).toNat + 1)) P).1 = true := h
    obtain ⟨t, P'', t1, t2, t3, t4, t5, t6⟩ := clRow_ok (fun s P' k hk => cl_keep (T 2) n r (j + 1) (used ||| 2 ^ s) P' k (by omega)) _ _ _ h
    have tn : t < n := (by omega)
    unfold okF at t3
    rw [ok_iff hV n8 hT hW j1 tn] at t3
    have e : (cl (T 2) n (r + 1) j used P).2 = (cl (T 2) n r (j + 1) (used ||| 2 ^ t) (updP P'' j t)).2 := t6
    rw [e, show j + (r + 1) = (j + 1) + r by omega]
    have Qk : ∀ k, k < j → updP P'' j t k = P k := fun k hk => by rw [updP_ne _ _ (by omega)]; exact t4 k hk
    refine cl_ok hV n8 hT r (j + 1) _ _ (by omega) ((hW.congr t4).add tn n8) (fun k k' h1 h2 h3 => ?_) (fun k hk => ?_) t5
    · by_cases a : k = j
      · by_cases b : k' = j
        · omega
        · rw [a, updP_same, Qk k' (by omega)] at h3
          exact absurd h3.symm (t3.2 k' (by omega))
      · by_cases b : k' = j
        · rw [b, updP_same, Qk k (by omega)] at h3
          exact absurd h3 (t3.2 k (by omega))
        · rw [Qk k (by omega), Qk k' (by omega)] at h3
          exact hD k k' (by omega) (by omega) h3
    · by_cases a : k + 1 = j
      · rw [a, updP_same, Qk k (by omega), show k = j - 1 by omega]
        rcases t3.1 with q | q
        · omega
        · exact q
      · rw [Qk k (by omega), Qk (k + 1) (by omega)]
        exact hE k (by omega)
theorem frS_ok {C T : Ch} {n len : Nat} (hV : VB C) (n8 : n ≤ 8) (hT : LK T C n) (hl : 1 ≤ len) : ∀ (m s : Nat) (P : Nat → Int), s + m ≤ n → (frS (T 2) n len s m P).1 = true → PV C n len (frS (T 2) n len s m P).2
  | 0, _, _, _, h => by cases h
  | m + 1, s, P, hs, h => by
    have e : frS (T 2) n len s (m + 1) P = (if (cl (T 2) n (len - 1) 1 (2 ^ s) (updP P 0 s)).1 then (true, (cl (T 2) n (len - 1) 1 (2 ^ s) (updP P 0 s)).2) else frS (T 2) n len (s + 1) m (cl (T 2) n (len - 1) 1 (2 ^ s) (updP P 0 s)).2) := rfl
    rw [e] at h ⊢
    by_cases c : (cl (T 2) n (len - 1) 1 (2 ^ s) (updP P 0 s)).1 = true
    · rw [if_pos c]
      have := cl_ok hV n8 hT (len - 1) 1 (2 ^ s) (updP P 0 s) (by omega) (PW_1 (by omega) n8) (fun k k' _ _ _ => by omega) (fun k hk => by omega) c
      rw [show 1 + (len - 1) = len by omega] at this
      exact this
    · rw [if_neg c] at h ⊢
      exact frS_ok hV n8 hT hl m (s + 1) _ (by omega) h
theorem frL_ok {C T : Ch} {n : Nat} (hV : VB C) (n8 : n ≤ 8) (hT : LK T C n) : ∀ (m len : Nat) (P : Nat → Int) (L : Nat), 1 ≤ len → (frL (T 2) n len m P).1 = (L : Int) → 1 ≤ L → PV C n L (frL (T 2) n len m P).2
  | 0, _, _, L, _, h, hL => by
    have h : (0 : Int) = L := h
    omega
  | m + 1, len, P, L, hl, h, hL => by
    have e : frL (T 2) n len (m + 1) P = (if (frS (T 2) n len 0 n P).1 then ((len : Int), (frS (T 2) n len 0 n P).2) else frL (T 2) n (len + 1) m (frS (T 2) n len 0 n P).2) := rfl
    rw [e] at h ⊢
    by_cases c : (frS (T 2) n len 0 n P).1 = true
    · rw [if_pos c] at h ⊢
      have h : (len : Int) = L := h
      have : len = L := (by omega)
      subst this
      exact frS_ok hV n8 hT hl n 0 P (by omega) c
    · rw [if_neg c] at h ⊢
      exact frL_ok hV n8 hT m (len + 1) _ L (by omega) h hL
theorem nxt {n k : Nat} (h : k < n) : (k + 1) % n = if k + 1 = n then 0 else k + 1 := by
  split
  · rename_i e; rw [e, Nat.mod_self]
  · exact Nat.mod_eq_of_lt (by omega)
theorem PV.edge {C : Ch} {n len : Nat} {P : Nat → Int} (h : PV C n len P) {k : Nat} (hk : k < len) : 0 < debtC C (P k) (P ((k + 1) % len)).toNat := by
  rw [nxt hk]
  split
  · rw [show k = len - 1 by omega]; exact h.2.2.2
  · exact h.2.2.1 k (by omega)
theorem PV.line {C : Ch} {n len : Nat} {P : Nat → Int} (h : PV C n len P) {k k' : Nat} (hk : k < k') (hk' : k' < len) : (P ((k + 1) % len)).toNat ≠ (P ((k' + 1) % len)).toNat := by
  intro e
  have l1 : (k + 1) % len < len := Nat.mod_lt _ (by omega)
  have l2 : (k' + 1) % len < len := Nat.mod_lt _ (by omega)
  have r1 := h.1 _ l1
  have r2 := h.1 _ l2
  have := h.2.1 _ _ l1 l2 (by omega)
  rw [nxt (show k < len by omega), nxt hk'] at this
  split at this <;> split at this <;> omega
theorem slotOf_congr {C D : Ch} {x : Int} {b : Nat} (hV : VB C) (hb : b < 8) (e4 : D 4 = C 4) (e6 : ∀ i, i / 6 = b → D 6 i = C 6 i) : slotOfC D x b = slotOfC C x b := by
  have le := hV.le b hb
  have e : noteOfC D x b = noteOfC C x b := by
    unfold noteOfC fnd
    rw [e4]
    refine fndF_congr (fun k _ hk => ?_)
    show (D 6 (6 * b + k) == x) = (C 6 (6 * b + k) == x)
    rw [e6 (6 * b + k) (by omega)]
  rw [slotOf_note, slotOf_note, e]
theorem takeOff_ne {C : Ch} {i j : Nat} {n : Int} (h : j ≠ i) : takeOffC C i n 6 j = C 6 j ∧ takeOffC C i n 7 j = C 7 j := by
  unfold takeOffC
  split
  · rw [upd2_k _ _ h, upd2_c _ _ (show 6 ≠ 7 by decide), upd2_c _ _ (show 7 ≠ 6 by decide), upd2_k _ _ h]
    exact ⟨rfl, rfl⟩
  · rw [upd2_c _ _ (show 6 ≠ 7 by decide), upd2_k _ _ h]
    exact ⟨rfl, rfl⟩
/-- the ring when k of its lines are through: those to come are as they were -/
def RG (C D : Ch) (P : Nat → Int) (len k : Nat) : Prop := WC D ∧ D 4 = C 4 ∧ D 0 = C 0 ∧ ∀ k', k ≤ k' → k' < len → ∀ i, i / 6 = (P ((k' + 1) % len)).toNat → D 6 i = C 6 i ∧ D 7 i = C 7 i
theorem ringMin_le (C : Ch) (P : Nat → Int) (n : Nat) : ∀ m k, k < m → ringMin C P n m ≤ debtC C (P k) (P ((k + 1) % n)).toNat
  | 0, _, h => by omega
  | m + 1, k, h => by
    show min (ringMin C P n m) (debtC C (P m) (P ((m + 1) % n)).toNat) ≤ _
    by_cases e : k = m
    · subst e; omega
    · have := ringMin_le C P n m k (by omega)
      omega
theorem ringMin_nn {C : Ch} (hV : VB C) {P : Nat → Int} {len : Nat} (hP : ∀ k, k < len → 0 ≤ P k ∧ P k < 8) : ∀ k, k ≤ len → 0 ≤ ringMin C P len k ∧ ringMin C P len k ≤ 999
  | 0, _ => by simp [ringMin]
  | k + 1, h => by
    have h1 := ringMin_nn hV hP k (by omega)
    have h3 := hP ((k + 1) % len) (Nat.mod_lt _ (by omega))
    have h2 := debtC_rng hV (P k) (b := (P ((k + 1) % len)).toNat) (by omega)
    simp only [ringMin]
    omega
theorem RG.step {C D : Ch} {P : Nat → Int} {n len k : Nat} (hV : VB C) (hn : C 0 8 = n) (hP : PV C n len P) (h : RG C D P len k) (hk : k < len) : ∃ (i b : Nat), P ((k + 1) % len) = b ∧ (b : Int) < D 0 8 ∧ slotOfC D (P k) b = i ∧ i < 48 ∧ 0 ≤ ringMin C P len len ∧ ringMin C P len len ≤ D 7 i ∧ RG C (takeOffC D i (ringMin C P len len)) P len (k + 1) := by
  obtain ⟨w, d4, d0, ag⟩ := h
  have hnn := hV.n
  have l1 : (k + 1) % len < len := Nat.mod_lt _ (by omega)
  have r1 := hP.1 _ l1
  have r2 := hP.1 k hk
  obtain ⟨b, hb⟩ : ∃ b : Nat, P ((k + 1) % len) = b := ⟨(P ((k + 1) % len)).toNat, (by omega)⟩
  have ed := hP.edge hk
  have ml := ringMin_le C P len len k hk
  have mn := ringMin_nn hV (P := P) (len := len) (fun k hk => by have := hP.1 k hk; omega) len (Nat.le_refl _)
  have ag0 := ag k (Nat.le_refl _) hk
  rw [hb, show ((b : Int)).toNat = b from rfl] at ed ml ag0
  have sc : slotOfC D (P k) b = slotOfC C (P k) b := slotOf_congr hV (by omega) d4 (fun i hi => (ag0 i hi).1)
  have sn : slotOfC C (P k) b ≠ -1 := fun q => by rw [debtC_none q] at ed; omega
  obtain ⟨i, i1, i2, i3, i4, i5, i6⟩ := slotE hV (x := P k) (b := b) (by omega) (by omega) sn
  rw [debtC_slot i1] at ml ed
  have ai := ag0 i i2
  have lo : ringMin C P len len ≤ D 7 i := by rw [ai.2]; exact ml
  refine ⟨i, b, hb, by rw [d0, hn]; omega, by rw [sc]; exact i1, i3, mn.1, lo, WC_takeOff w i3 (by rw [ai.1]; exact i5) mn.1 lo, by rw [takeOffC_c (by decide) (by decide)]; exact d4, by rw [takeOffC_c (by decide) (by decide)]; exact d0, fun k' h1 h2 j hj => ?_⟩
  have ne := hP.line (k := k) (k' := k') (by omega) h2
  rw [hb, show ((b : Int)).toNat = b from rfl] at ne
  have ji : j ≠ i := fun q => by subst q; exact ne (by omega)
  rw [(takeOff_ne ji).1, (takeOff_ne ji).2]
  exact ag k' (by omega) h2 j hj
theorem ringOff_step {C D : Ch} {P : Nat → Int} {len k m i b : Nat} {off : Int} (hb : P ((k + 1) % len) = b) (hs : slotOfC D (P k) b = i) : ringOff P len off (m + 1) k D = ringOff P len off m (k + 1) (takeOffC D i off) := by
  show ringOff P len off m (k + 1) (if slotOfC D (P k) (P ((k + 1) % len)).toNat = -1 then D else takeOffC D (slotOfC D (P k) (P ((k + 1) % len)).toNat).toNat off) = _
  rw [hb, show ((b : Int)).toNat = b from rfl, hs, if_neg (by omega), show ((i : Int)).toNat = i from rfl]
theorem RG_end {C : Ch} {P : Nat → Int} {n len : Nat} (hV : VB C) (hn : C 0 8 = n) (hP : PV C n len P) : ∀ (m k : Nat) (D : Ch), k + m = len → RG C D P len k → RG C (ringOff P len (ringMin C P len len) m k D) P len len
  | 0, k, D, e, h => by
    have : k = len := (by omega)
    subst this
    exact h
  | m + 1, k, D, e, h => by
    obtain ⟨i, b, hb, -, hs, -, -, -, h'⟩ := h.step hV hn hP (by omega)
    rw [ringOff_step (C := C) hb hs]
    exact RG_end hV hn hP m (k + 1) _ (by omega) h'
theorem WC_clear {C : Ch} {P : Nat → Int} {n len : Nat} (hW : WC C) (hn : C 0 8 = n) (hP : PV C n len P) : WC (settleC (ringOff P len (ringMin C P len len) len 0 C)) :=
  WC_settle (RG_end hW.1 hn hP len 0 C (by omega) ⟨hW, rfl, rfl, fun _ _ _ _ _ => ⟨rfl, rfl⟩⟩).1
