def cpB (C : Ch) (n x : Nat) (B : Nat → Nat) : Prop := (∀ t, t < n → alv C t → (B (2 ^ t)).testBit t = true) ∧ ∀ y s t, EnP C n y s → y < x → t < n → y.testBit t = false → 0 < debtC C s t → (B (y ||| 2 ^ t)).testBit t = true
theorem cmp_all {C : Ch} {n x : Nat} {B : Nat → Nat} (n8 : n ≤ 8) (hW : WC C) (h : cpB C n x B) {y u : Nat} (he : EnP C n y u) (hy : y ≤ x) : (B y).testBit u = true := by
  obtain ⟨k, t0, h1, h2, h3⟩ := he
  cases k with
  | zero =>
    obtain ⟨rfl, rfl⟩ := h3
    exact h.1 _ h1 h2
  | succ k =>
    obtain ⟨y', s', e1, e2, e3, e4, rfl⟩ := ExK_last k _ _ y u h3
    have en : EnP C n y' s' := ⟨k, t0, h1, h2, e1⟩
    have f := EnP_f n8 hW en
    have := (popc_or y' f.1 u (by omega) e3).2
    exact h.2 y' s' u en (by omega) e2 e3 e4
theorem lrF_spec {C T : Ch} {n : Nat} (n8 : n ≤ 8) (hW : WC C) (hT : LK T C n) : ∀ (m x : Nat) (b : Int) (B : Nat → Nat), x + m = livM C n + 1 → (∀ y u, (B y).testBit u = true → EnP C n y u) → cpB C n x B → 0 ≤ b → (∀ y u, EnP C n y u → y < x → popc y ≤ b) → (b = 0 ∨ ∃ y u, EnP C n y u ∧ b = popc y) → 0 ≤ lrF (T 2) n x m b B ∧ (∀ y u, EnP C n y u → popc y ≤ lrF (T 2) n x m b B) ∧ (lrF (T 2) n x m b B = 0 ∨ ∃ y u, EnP C n y u ∧ lrF (T 2) n x m b B = popc y)
  | 0, x, b, B, hx, s1, s2, b0, b1, b2 => ⟨b0, fun y u h => b1 y u h (by have := (EnP_f n8 hW h).2.2.1; omega), b2⟩
  | m + 1, x, b, B, hx, s1, s2, b0, b1, b2 => by
    have e : lrF (T 2) n x (m + 1) b B = (if B x = 0 then lrF (T 2) n (x + 1) m b B else lrF (T 2) n (x + 1) m (max b (popc x)) (lnL (T 2) n x 0 n B)) := rfl
    rw [e]
    by_cases c : B x = 0
    · rw [if_pos c]
      have none : ∀ u, ¬ EnP C n x u := fun u h => by
        have := cmp_all n8 hW s2 h (Nat.le_refl _)
        rw [c, Nat.zero_testBit] at this
        cases this
      refine lrF_spec n8 hW hT m (x + 1) b B (by omega) s1 ⟨s2.1, fun y s t h hy => ?_⟩ b0 (fun y u h hy => ?_) b2
      · by_cases q : y = x
        · subst q; exact absurd h (none s)
        · exact s2.2 y s t h (by omega)
      · by_cases q : y = x
        · subst q; exact absurd h (none u)
        · exact b1 y u h (by omega)
    · rw [if_neg c]
      obtain ⟨w, hw⟩ : ∃ w, (B x).testBit w = true := by
        by_cases q : ∃ w, (B x).testBit w = true
        · exact q
        · refine absurd (Nat.eq_of_testBit_eq (fun i => ?_)) c
          rw [Nat.zero_testBit]
          cases z : (B x).testBit i with
          | false => rfl
          | true => exact absurd ⟨i, z⟩ q
      have en := s1 x w hw
      have lnk : ∀ s t, s < n → t < n → ((nAnd (T 2 s).toNat x).testBit t = true ↔ (s ≠ t ∧ 0 < debtC C s t) ∧ x.testBit t = false) := by
        intro s t hs ht
        rw [nAnd_bit (by omega), (hT.2.2 s hs).2.1, show (((msk (lkN C s) n : Nat) : Int)).toNat = msk (lkN C s) n from rfl, msk_bit _ n n8, decide_eq_true ht, Bool.true_and]
        unfold lkN
        rw [Bool.and_eq_true, decide_eq_true_eq, decide_eq_true_eq]
      have lastn : ∀ y u, EnP C n y u → u < n := by
        rintro y u ⟨k, t0, h1, h2, h3⟩
        cases k with
        | zero => obtain ⟨rfl, rfl⟩ := h3; exact h1
        | succ k => obtain ⟨y', s', -, e2, -⟩ := ExK_last k _ _ y u h3; exact e2
      refine lrF_spec n8 hW hT m (x + 1) _ _ (by omega) (fun y u h => ?_) ⟨fun t ht ha => ?_, fun y s t h hy ht hb hd => ?_⟩ (by omega) (fun y u h hy => ?_) ?_
      · rw [lnL_bit (T 2) n8] at h
        rcases h with q | ⟨q1, q2, s', q3, q4, q5, q6⟩
        · exact s1 y u q
        · obtain ⟨k, t0, h1, h2, h3⟩ := s1 x s' q5
          have := (lnk s' u (by omega) q1).mp q6
          rw [q2]
          exact ⟨k + 1, t0, h1, h2, ExK_snoc k _ _ x s' u h3 q1 this.2 this.1.2⟩
      · rw [lnL_bit (T 2) n8]; exact Or.inl (s2.1 t ht ha)
      · rw [lnL_bit (T 2) n8]
        by_cases q : y = x
        · subst q
          have hs := lastn y s h
          have yb := (EnP_f n8 hW h).2.2.2
          refine Or.inr ⟨ht, rfl, s, (by omega), (by omega), cmp_all n8 hW s2 h (Nat.le_refl _), (lnk s t hs ht).mpr ⟨⟨fun q => ?_, hd⟩, hb⟩⟩
          subst q
          rw [yb] at hb; cases hb
        · exact Or.inl (s2.2 y s t h (by omega) ht hb hd)
      · by_cases q : y = x
        · subst q; omega
        · have := b1 y u h (by omega)
          omega
      · have p1 := (EnP_f n8 hW en).2.1
        by_cases q : popc x ≤ b
        · rw [show max b (popc x) = b by omega]; exact b2
        · rw [show max b (popc x) = popc x by omega]; exact Or.inr ⟨x, w, en, rfl⟩
theorem rowC_spec {C T : Ch} {n : Nat} (n8 : n ≤ 8) (hW : WC C) (hT : LK T C n) : 0 ≤ rowC (T 2) n (livM C n) ∧ (∀ y u, EnP C n y u → popc y ≤ rowC (T 2) n (livM C n)) ∧ (rowC (T 2) n (livM C n) = 0 ∨ ∃ y u, EnP C n y u ∧ rowC (T 2) n (livM C n) = popc y) := by
  have ib := lrI_bit (livM C n) n 0 (fun _ => 0) (fun y u => by
    rw [Nat.zero_testBit]
    constructor
    · intro q; cases q
    · rintro ⟨q, -⟩; omega)
  unfold rowC
  refine lrF_spec n8 hW hT _ 1 0 _ (by omega) (fun y u h => ?_) ⟨fun t ht ha => ?_, fun y s t h hy => ?_⟩ (by omega) (fun y u h hy => ?_) (Or.inl rfl)
  · obtain ⟨h1, h2, h3⟩ := (ib y u).mp h
    have := (liv_bit hW.1 n8 u).mp h3
    exact ⟨0, u, this.1, this.2, h2, rfl⟩
  · exact (ib _ _).mpr ⟨(by omega), rfl, (liv_bit hW.1 n8 t).mpr ⟨ht, ha⟩⟩
  · have f := EnP_f n8 hW h
    have : y = 0 := (by omega)
    subst this
    rw [Nat.zero_testBit] at f
    cases f.2.2.2
  · have f := EnP_f n8 hW h
    have : y = 0 := (by omega)
    subst this
    rw [Nat.zero_testBit] at f
    cases f.2.2.2
def attB (C : Ch) (n : Nat) (b : Int) : Prop := b = 0 ∨ ∃ y u, EnP C n y u ∧ b = popc y
theorem chain_row {l : Launch} {E : EnvT} {d : Nat} {M : Mem} {K : AV → Mem → Prop} {C Z : Ch} {A : Nat → Int} {n : Nat} (hd : 6 ≤ d) (hB : Z 0 21 = 0) (hW : WC C) (hR : RR C A 0) (hn : C 0 8 = n) : ∀ (r j used : Nat) (P : Nat → Int), j + r = 8 → 1 ≤ r → PW n j used P → popc used = j → (∀ t : Nat, t < n → okR C P j t → alv C t → EnP C n (used ||| 2 ^ t) t) → ∀ (f : Nat) (p b : Int) (Y : Ch), p + 1 + f = n → -1 ≤ p → (∀ k, k < j → Y 10 k = P k) → Y 10 j = p → (∀ c, c ≠ 10 → Y c = Z c) → 0 ≤ b → b ≤ 8 → attB C n b → (∀ (b' : Int) (Y' : Ch), (∀ k, k < j → Y' 10 k = P k) → (∀ c, c ≠ 10 → Y' c = Z c) → b ≤ b' → b' ≤ 8 → attB C n b' → (∀ t : Nat, p < t → t < n → okR C P j t → alv C t → ∀ k y u, ExK C n k (used ||| 2 ^ t) t y u → popc y ≤ b') → G l E d m_Mod_chain 11 [(0, (.ref 24, 41)), (1, (.int (iN b'), 0)), (2, (.int (iN ((j : Int) - 1)), 0))] [] (zA M Y' A) K) → G l E d m_Mod_chain 11 [(0, (.ref 24, 41)), (1, (.int (iN b), 0)), (2, (.int (iN (j : Int)), 0))] [] (zA M Y A) K := by
  intro r
  have hV := hW.1
  have hnn := hV.n
  have n8 : n ≤ 8 := (by omega)
  induction r with
  | zero => intro j used P h1 h2; omega
  | succ r ihr =>
  intro j used P jr _ hP pu hE f
  induction f using Nat.strongRecOn with
  | _ f ih =>
  intro p b Y f1 p1 e2 e3 e4 b0 b1 b2 hF
  have hB' : Y 0 21 = 0 := by rw [e4 0 (by decide)]; exact hB
  have okc : ∀ t, okR C (Y 10) j t ↔ okR C P j t := fun t => by
    by_cases j0 : j = 0
    · subst j0
      exact ⟨fun _ => ⟨Or.inl rfl, fun k hk => by omega⟩, fun _ => ⟨Or.inl rfl, fun k hk => by omega⟩⟩
    · exact okR_congr (by omega) e2
  refine b_Mod_chain_11 (by omega) ⟨fun c => absurd ((iN_lt0 (by omega) (by omega)).mp c) (by omega), fun _ => r_nextAt (p := p) (by omega) hB' hV hR hn (by omega) e3 p1 (by omega) (fun k hk => by rw [e2 k hk]; exact hP.1 k hk) (fun none => ?_) (fun t t1 t2 t3 t4 => ?_)⟩
  · refine ⟨fun _ => ⟨fun c => absurd rfl c, fun _ => ?_⟩, fun c => absurd rfl c⟩
    rw [iN_add, show (j : Int) + -1 = j - 1 by omega]
    exact hF b Y e2 e4 (Int.le_refl _) b1 b2 (fun t q1 q2 q3 => absurd ((okc t).mpr q3) (none t q1 q2))
  · have okt := (okc t).mp t3
    have tu : used.testBit t = false := by
      cases q : used.testBit t with
      | false => rfl
      | true =>
        obtain ⟨k, k1, k2⟩ := (hP.2.2 t (by omega)).mp q
        exact absurd k2 (okt.2 k k1)
    have po := (popc_or used hP.2.1 t (by omega) tu).1
    have yk : ∀ k, k < j → upd2 Y 10 j t 10 k = P k := fun k hk => by rw [upd2_k _ _ (by omega)]; exact e2 k hk
    have yc : ∀ c, c ≠ 10 → upd2 Y 10 j t c = Z c := fun c hc => by rw [upd2_c _ _ hc]; exact e4 c hc
    have ne1 : ¬ iN (t : Int) = iN (-1) := fun q => by rw [iN_eq (by omega) (by omega) (by omega) (by omega)] at q; omega
    refine ⟨fun c => absurd c ne1, fun _ => c_isDead (by omega) hB' hV hR (by omega) ?_⟩
    simp only [toI_int]
    rw [b2i_z]
    have other : ∀ t' : Nat, p < t' → t' < n → okR C P j t' → t' ≠ t → (t : Int) < t' := fun t' q1 q2 q3 q4 => by
      by_cases q : t' < t
      · exact absurd ((okc t').mpr q3) (t4 t' q1 q)
      · omega
    refine ⟨fun live => ⟨in8 (by omega) (by omega), ?_⟩, fun dead => ⟨fun _ => ⟨in8 (by omega) (by omega), ?_⟩, fun c => absurd c ne1⟩⟩
    · have al : alv C t := live
      have en := hE t t2 okt al
      have m1 : (0 : Int) ≤ max b ((j : Int) + 1) ∧ max b ((j : Int) + 1) ≤ 8 := (by omega)
      have att : attB C n (max b ((j : Int) + 1)) := by
        by_cases q : (j : Int) + 1 ≤ b
        · rw [show max b ((j : Int) + 1) = b by omega]; exact b2
        · rw [show max b ((j : Int) + 1) = (j : Int) + 1 by omega]
          exact Or.inr ⟨_, t, en, by rw [po, pu]⟩
      rw [iN_add, iN_clN (by omega), iN_small (by omega) (by omega), zA_uo M Y A (show 10 ≠ 1 by decide)]
      refine c_max (by omega) (by omega) (by omega) (by omega) (by omega) ?_
      rw [toI_int, iN_eq (a := (j : Int) + 1) (by omega) (by omega) (by omega) (by omega)]
      have fin : ∀ (b' : Int) (Y' : Ch), (∀ k, k < j → Y' 10 k = P k) → Y' 10 j = t → (∀ c, c ≠ 10 → Y' c = Z c) → max b ((j : Int) + 1) ≤ b' → b' ≤ 8 → attB C n b' → (∀ t' : Nat, t' < n → (used ||| 2 ^ t).testBit t' = false → 0 < debtC C t t' → ∀ k y u, ExK C n k (used ||| 2 ^ t ||| 2 ^ t') t' y u → popc y ≤ b') → G l E d m_Mod_chain 11 [(0, (.ref 24, 41)), (1, (.int (iN b'), 0)), (2, (.int (iN (j : Int)), 0))] [] (zA M Y' A) K := by
        intro b' Y' q1 q2 q3 q4 q5 q6 q7
        refine ih (n - (t + 1)) (by omega) t b' Y' (by omega) (by omega) q1 q2 q3 (by omega) q5 q6 (fun b'' Y'' w1 w2 w3 w4 w5 w6 => hF b'' Y'' w1 w2 (by omega) w4 w5 (fun t' v1 v2 v3 v4 k y u v5 => ?_))
        by_cases e : t' = t
        · subst e
          cases k with
          | zero =>
            obtain ⟨rfl, rfl⟩ := v5
            rw [po, pu]; omega
          | succ k =>
            obtain ⟨t2', a1, a2, a3, a4⟩ := v5
            have := q7 t2' a1 a2 a3 k y u a4
            omega
        · exact w6 t' (other t' v1 v2 v3 e) v2 v3 v4 k y u v5
      refine ⟨fun c8 => ⟨in8 (by omega) (by omega), ?_⟩, fun c8 => ?_⟩
      · rw [cl4 (z := (j : Int) + 1) (j := j + 1) rfl (by omega), iN_m1I, zA_uo M _ A (show 10 ≠ 1 by decide), show (j : Int) + 1 = ((j + 1 : Nat) : Int) from rfl]
        have Qk : ∀ k, k < j → updP P j t k = P k := fun k hk => updP_ne _ _ (by omega)
        have Qj : updP P j t j = t := updP_same _ _ _
        have hP' := hP.add (t := t) t2 n8
        have nn : ∀ t', t' < n → (okR C (updP P j t) (j + 1) t' ↔ 0 < debtC C t t' ∧ (used ||| 2 ^ t).testBit t' = false) := by
          intro t' ht'
          unfold okR
          rw [show j + 1 - 1 = j by omega, Qj]
          have ub := hP'.2.2 t' (by omega)
          constructor
          · rintro ⟨q1, q2⟩
            refine ⟨?_, ?_⟩
            · rcases q1 with q1 | q1
              · omega
              · exact q1
            · cases q : (used ||| 2 ^ t).testBit t' with
              | false => rfl
              | true => obtain ⟨k, k1, k2⟩ := ub.mp q; exact absurd k2 (q2 k k1)
          · rintro ⟨q1, q2⟩
            refine ⟨Or.inr q1, fun k hk e => ?_⟩
            have := ub.mpr ⟨k, hk, e⟩
            rw [q2] at this; cases this
        refine ihr (j + 1) (used ||| 2 ^ t) (updP P j t) (by omega) (by omega) hP' (by rw [po, pu]; push_cast; rfl) (fun t' q1 q2 _ => ?_) n (-1) _ _ (by omega) (by omega) (fun k hk => ?_) (upd2_same _ _ _ _) (fun c hc => by rw [upd2_c _ _ hc]; exact yc c hc) (by push_cast; omega) (by push_cast; omega) att (fun b' Y' w1 w2 w3 w4 w5 w6 => ?_)
        · obtain ⟨q3, q4⟩ := (nn t' q1).mp q2
          obtain ⟨k, t0, h1, h2, h3⟩ := en
          exact ⟨k + 1, t0, h1, h2, ExK_snoc k _ _ _ t t' h3 q1 q4 q3⟩
        · rw [upd2_k _ _ (show k ≠ j + 1 by omega)]
          by_cases e : k = j
          · subst e; rw [upd2_same, Qj]
          · rw [yk k (by omega), Qk k (by omega)]
        · rw [show ((j + 1 : Nat) : Int) - 1 = (j : Int) by omega]
          refine fin b' Y' (fun k hk => by rw [w1 k (by omega), Qk k hk]) (by rw [w1 j (by omega), Qj]) w2 w3 w4 w5 (fun t' q1 q2 q3 k y u q4 => ?_)
          exact w6 t' (by omega) q1 ((nn t' q1).mpr ⟨q3, q2⟩) (debt_alv hW (by omega) (by omega) q3) k y u q4
      · refine fin _ _ yk (upd2_same _ _ _ _) yc (Int.le_refl _) m1.2 att (fun t' q1 q2 => ?_)
        have : used ||| 2 ^ t = 255 := popc_8 _ (or_lt hP.2.1 (pow_lt (by omega))) (by rw [po, pu]; omega)
        rw [this] at q2
        have b255 : ∀ t, t < 8 → (255 : Nat).testBit t = true := by decide
        rw [b255 t' (by omega)] at q2; cases q2
    · rw [iN_clN (by omega), iN_small (by omega) (by omega), zA_uo M Y A (show 10 ≠ 1 by decide)]
      refine ih (n - (t + 1)) (by omega) t b _ (by omega) (by omega) yk (upd2_same _ _ _ _) yc b0 b1 b2 (fun b' Y' w1 w2 w3 w4 w5 w6 => hF b' Y' w1 w2 w3 w4 w5 (fun t' v1 v2 v3 v4 => ?_))
      by_cases e : t' = t
      · subst e
        exact absurd v4 dead
      · exact w6 t' (other t' v1 v2 v3 e) v2 v3 v4
theorem r_chain {l : Launch} {E : EnvT} {d : Nat} {K : AV → Mem → Prop} {M : Mem} {C Z T : Ch} {A : Nat → Int} {n : Nat} (hd : 6 ≤ d) (hB : Z 0 21 = 0) (hW : WC C) (hR : RR C A 0) (hn : C 0 8 = n) (hT : LK T C n) (h : ∀ Z', ZS Z Z' → K (.int (iN (rowC (T 2) n (livM C n))), 0) (zA M (sZ Z' 0) A)) : CT l E d m_Mod_chain [(.ref 24, 41)] (zA M Z A) K := by
  refine CT.of pn_Mod (Nat.le_of_ble_eq_true rfl) ?_
  have hnn := hW.1.n
  have n8 : n ≤ 8 := (by omega)
  obtain ⟨s0, s1, s2⟩ := rowC_spec n8 hW hT
  refine b_Mod_chain_0 (by omega) ⟨in8 (by omega) (by omega), ?_⟩
  rw [cp_0, iN_m1I, zA_uo M Z A (show 10 ≠ 1 by decide)]
  refine chain_row (by omega) hB hW hR hn 8 0 0 (fun _ => 0) (by omega) (by omega) ⟨fun k hk => by omega, (by omega), fun t _ => ?_⟩ (by decide +kernel) (fun t h1 _ h3 => ?_) n (-1) 0 _ (by omega) (by omega) (fun k hk => by omega) (upd2_same _ _ _ _) (fun c hc => upd2_c _ _ hc) (by omega) (by omega) (Or.inl rfl) (fun b' Y' _ w2 w3 w4 w5 w6 => ?_)
  · rw [Nat.zero_testBit]
    constructor
    · intro q; cases q
    · rintro ⟨k, q, -⟩; omega
  · rw [Nat.zero_or]
    exact ⟨0, t, h1, h3, rfl, rfl⟩
  · refine b_Mod_chain_11 (by omega) ⟨fun _ => r_gives (by omega) ?_, fun c => absurd ((iN_lt0 (by omega) (by omega)).mpr (by omega)) c⟩
    have up : ∀ y u, EnP C n y u → popc y ≤ b' := by
      rintro y u ⟨k, t0, h1, h2, h3⟩
      refine w6 t0 (by omega) h1 ⟨Or.inl rfl, fun k hk => by omega⟩ h2 k y u ?_
      rw [Nat.zero_or]; exact h3
    have e : b' = rowC (T 2) n (livM C n) := by
      rcases w5 with q | ⟨y, u, q1, q2⟩
      · rcases s2 with q' | ⟨y, u, q1, q2⟩
        · omega
        · have := up y u q1
          have := (EnP_f n8 hW q1).2.1
          omega
      · have a := s1 y u q1
        rcases s2 with q' | ⟨y', u', q3, q4⟩
        · have := (EnP_f n8 hW q1).2.1
          omega
        · have := up y' u' q3
          omega
    rw [e]
    exact h Y' (fun c _ hc => w2 c hc)
