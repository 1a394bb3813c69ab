def FrW (B : Nat) (A A' : Nat → Int) : Prop := ∀ j, j ≠ B + 5 → ¬ (B + 118 ≤ j ∧ j < B + 238) → A' j = A j
theorem FrW.rf (B : Nat) (A : Nat → Int) : FrW B A A := fun _ _ _ => rfl
theorem FrW.u {B : Nat} {A A' : Nat → Int} (h : FrW B A A') {j : Nat} (v : Int) (h1 : B ≤ j) (h2 : j < B + 238) (h3 : j = B + 5 ∨ B + 118 ≤ j := by omega) : FrW B A (updP A' j v) := fun i a b => by
  rw [updP_ne _ _ (by omega)]
  exact h i a b
theorem FrW_stands {A : Nat → Int} {B i : Nat} {who v : Int} (hi : i < 48) : FrW B A (stA A B i who v) := by
  unfold stA
  exact ((FrW.rf B A).u _ (by omega) (by omega)).u _ (by omega) (by omega)
theorem c_booksW {l : Launch} {E : EnvT} {d : Nat} {K : AV → Mem → Prop} {M : Mem} {C Z : Ch} {A : Nat → Int} {B b : Nat} {a n : Int} (hd : 4 ≤ d) (hB : Z 0 21 = B) (B3 : B ≤ 3010) (hV : VB C) (hR : RR C A B) (a1 : 0 ≤ a) (a2 : a < 8) (hb : (b : Int) < C 0 8) (n1 : 1 ≤ n) (n2 : n ≤ 999) (h : ∀ A', RR (oweC C a b n).2 A' B → FrW B A A' → K (.int (iN (b2i (oweC C a b n).1)), 0) (zA M Z A')) : CT l E d m_Mod_books [(.ref 24, 41), (.int (iN a), 0), (.int (iN b), 0), (.int (iN n), 0)] (zA M Z A) K := by
  refine CT.of pn_Mod (Nat.le_of_ble_eq_true rfl) ?_
  have hn := hV.n
  have hw := hV.w
  have f5 := hR.1.2.2.2.2
  unfold oweC at h
  refine b_Mod_books_0 (by omega) (c_noteOf (by omega) hB B3 hV hR hb (by omega) a2 ?_)
  rw [toI_int]
  rcases noteOf_rng hV a (b := b) (by omega) with e | ⟨k, e, k1, k2, k3⟩
  · rw [slot_note1 e] at h
    rw [if_neg (by simp)] at h
    rw [e]
    refine ⟨fun _ => c_waiterOf (by omega) hB B3 hV hR (by omega) a2 (by omega) (by omega) ?_, fun c => absurd rfl c⟩
    rw [toI_int]
    have c212 : ∀ (j : Nat) (D : Ch) (A' : Nat → Int), VB D → RR D A' B → FrW B A A' → (j : Int) < D 8 3 → (D 11 j + n ≤ 999 → ∀ A'', RR (upd2 D 11 j (D 11 j + n)) A'' B → FrW B A A'' → K (.int (iN 1), 0) (zA M Z A'')) → (¬ D 11 j + n ≤ 999 → K (.int (iN 0), 0) (zA M Z A')) → G l E d m_Mod_books 212 [(0, (.ref 24, 41)), (3, (.int (iN n), 0)), (5, (.int (iN j), 0))] [] (zA M Z A') K := by
      intro j D A' vD rD fD hj h1 h2
      have w := vD.w
      have wm := vD.wm j (by omega)
      have q := rD.2.2.2.2 j hj
      refine b_Mod_books_212 (by omega) ?_
      simp only [zA_0, zA_1, zA_u, hB, iN_add, iN_mul]
      rw [clA (z := (B : Int) + 214 + 3 * j + 2) (j := B + 214 + 3 * j + 2) (by omega) (by omega), q.2.2, iN_le (by omega) (by omega) (by omega) (by omega), iN_small (by omega) (by omega)]
      refine ⟨inA (by omega) (by omega), fun c => ⟨inA (by omega) (by omega), inA (by omega) (by omega), o01, h1 c _ ?_ (fD.u _ (by omega) (by omega))⟩, fun c => ⟨z01, h2 c⟩⟩
      refine RR_w vD rD (fun c hc => upd2_c _ _ (by omega)) (fun i i1 i2 i3 => updP_ne _ _ (by omega)) ?_ (fun i hi => ?_)
      · rw [updP_ne _ _ (by omega), upd2_c _ _ (by decide)]; exact rD.1.2.2.2.2
      · rw [upd2_c _ _ (by decide)] at hi
        have qi := rD.2.2.2.2 i hi
        rw [updP_ne _ _ (by omega), updP_ne _ _ (by omega), updP_at, upd2_c _ _ (by decide), upd2_c _ _ (by decide), upd2_at]
        refine ⟨qi.1, qi.2.1, ?_⟩
        by_cases c : i = j
        · rw [if_pos (by omega), if_pos c]
        · rw [if_neg (by omega), if_neg c]; exact qi.2.2
    rcases placeOf_rng hV a b with pe | ⟨k, pe, k1, k2, k3, k4⟩
    · rw [pe] at h ⊢
      rw [if_neg (by simp)] at h
      refine ⟨fun c => absurd rfl c, fun _ => c_noteOf (by omega) hB B3 hV hR hb (by omega) (by omega) ?_⟩
      rw [toI_int]
      rcases noteOf_rng hV (-1) (b := b) (by omega) with fe | ⟨j, fe, j1, j2, j3⟩
      · rw [fe]
        rw [slot_note1 fe, if_pos rfl] at h
        refine ⟨fun _ => ⟨fun c => absurd rfl c, fun _ => ?_⟩, fun c => absurd rfl c⟩
        simp only [zA_0, zA_1, hB, iN_add]
        rw [clA (z := (B : Int) + 5) (j := B + 5) (by omega) (by omega), f5, iN_eq (by omega) (by omega) (by omega) (by omega)]
        refine ⟨inA (by omega) (by omega), fun c8 => ⟨fun c => absurd trivial c, fun _ => ⟨inA (by omega) (by omega), ?_⟩⟩, fun c8 => ⟨z01, ?_⟩⟩
        · rw [if_pos (show C 8 3 < 8 by omega)] at h
          obtain ⟨w, hw'⟩ : ∃ w : Nat, C 8 3 = w := ⟨(C 8 3).toNat, (by omega)⟩
          rw [hw']
          refine b_Mod_books_136 (by omega) ?_
          simp only [zA_0, zA_u, hB, iN_add, iN_mul]
          rw [clA (z := (B : Int) + 214 + 3 * w) (j := B + 214 + 3 * w) (by omega) (by omega), iN_small (by omega) (by omega)]
          refine ⟨inA (by omega) (by omega), b_Mod_books_155 (by omega) ?_⟩
          simp only [zA_0, zA_u, hB, iN_add, iN_mul]
          rw [clA (z := (B : Int) + 214 + 3 * w + 1) (j := B + 214 + 3 * w + 1) (by omega) (by omega), iN_small (by omega) (by omega)]
          refine ⟨inA (by omega) (by omega), b_Mod_books_176 (by omega) ?_⟩
          simp only [zA_0, zA_u, hB, iN_add, iN_mul, iN_0I]
          rw [clA (z := (B : Int) + 214 + 3 * w + 2) (j := B + 214 + 3 * w + 2) (by omega) (by omega)]
          refine ⟨inA (by omega) (by omega), b_Mod_books_197 (by omega) ?_⟩
          simp only [zA_0, zA_1, zA_u, hB, iN_add]
          rw [clA (z := (B : Int) + 5) (j := B + 5) (by omega) (by omega), updP_ne _ _ (by omega), updP_ne _ _ (by omega), updP_ne _ _ (by omega), f5, hw', iN_small (by omega) (by omega)]
          have jw : joinC C a b 0 8 3 = (w : Int) + 1 := by rw [joinC_8, hw']
          have jm : joinC C a b 0 11 w = 0 := by rw [joinC_11, if_pos (by rw [hw']; rfl)]
          refine ⟨inA (by omega) (by omega), inA (by omega) (by omega), c212 w (joinC C a b 0) _ (VB_join hV (by omega) a1 a2 (by omega) (by omega) (by omega) (by omega)) ?_ ?_ (by rw [jw]; omega) (fun _ A'' r'' f'' => ?_) (fun c => ?_)⟩
          · refine RR_w hV hR (fun c hc => joinC_c hc) (fun i i1 i2 i3 => ?_) (by rw [updP_same, jw]) (fun i hi => ?_)
            · rw [updP_ne _ _ (by omega), updP_ne _ _ (by omega), updP_ne _ _ (by omega), updP_ne _ _ (by omega)]
            · rw [jw] at hi
              rw [joinC_9, joinC_10, joinC_11, show (C 8 3).toNat = w by omega]
              by_cases c : i = w
              · subst c
                rw [if_pos rfl, if_pos rfl, if_pos rfl]
                refine ⟨?_, ?_, ?_⟩
                · rw [updP_ne _ _ (by omega), updP_ne _ _ (by omega), updP_ne _ _ (by omega), updP_same]
                · rw [updP_ne _ _ (by omega), updP_ne _ _ (by omega), updP_same]
                · rw [updP_ne _ _ (by omega), updP_same]
              · rw [if_neg c, if_neg c, if_neg c]
                have qi := hR.2.2.2.2 i (by omega)
                refine ⟨?_, ?_, ?_⟩
                · rw [updP_ne _ _ (by omega), updP_ne _ _ (by omega), updP_ne _ _ (by omega), updP_ne _ _ (by omega)]; exact qi.1
                · rw [updP_ne _ _ (by omega), updP_ne _ _ (by omega), updP_ne _ _ (by omega), updP_ne _ _ (by omega)]; exact qi.2.1
                · rw [updP_ne _ _ (by omega), updP_ne _ _ (by omega), updP_ne _ _ (by omega), updP_ne _ _ (by omega)]; exact qi.2.2
          · exact ((((FrW.rf B A).u _ (by omega) (by omega)).u _ (by omega) (by omega)).u _ (by omega) (by omega)).u _ (by omega) (by omega)
          · refine h A'' ?_ f''
            rw [jm, show (0 : Int) + n = n by omega] at r''
            have e : upd2 (joinC C a b 0) 11 w n = joinC C a b n := by
              unfold joinC
              rw [hw', show ((w : Int)).toNat = w from rfl, upd2_comm _ _ _ _ _ (show 8 ≠ 11 by decide), upd2_twice]
            rw [e] at r''
            exact r''
          · rw [jm] at c; omega
        · rw [if_neg (show ¬ C 8 3 < 8 by omega)] at h
          exact h A hR (FrW.rf B A)
      · rw [fe]
        rw [slot_note fe, if_neg (by omega)] at h
        rw [iN_eq (by omega) (by omega) (by omega) (by omega)]
        refine ⟨fun c => absurd c (by omega), fun _ => c_stands (by omega) hB B3 (by omega) (by omega) (by omega) a2 (by omega) (by omega) ⟨o01, h _ ?_ (FrW_stands (by omega))⟩⟩
        have r := RR_stands (i := 6 * b + j) (who := a) (v := n) hV hR (by omega) (by omega) a2
        rw [if_neg (show ¬ n = 0 by omega)] at r
        exact r
    · rw [pe] at h ⊢
      rw [if_pos (by omega), show ((k : Int)).toNat = k from rfl] at h
      rw [iN_eq (by omega) (by omega) (by omega) (by omega)]
      refine ⟨fun _ => ⟨fun _ => ⟨fun _ => ⟨fun _ => c212 k C A hV hR (FrW.rf B A) (by omega) (fun c A'' r'' f'' => ?_) (fun c => ?_), fun c => absurd c (by omega)⟩, fun c => absurd c (by omega)⟩, fun c => absurd rfl c⟩, fun c => absurd c (by omega)⟩
      · rw [if_pos c] at h; exact h A'' r'' f''
      · rw [if_neg c] at h; exact h A hR (FrW.rf B A)
  · rw [slot_note e, if_pos (by omega), show (((6 * b + k : Nat) : Int)).toNat = 6 * b + k from rfl] at h
    rw [e, iN_eq (by omega) (by omega) (by omega) (by omega)]
    have de := hV.de (6 * b + k) (by omega)
    refine ⟨fun c => absurd c (by omega), fun _ => c_debtAt (by omega) hB B3 (by omega) (by omega) ?_⟩
    rw [(hR.2.2.2.1 (6 * b + k) (by omega)).2, toI_int, iN_add, iN_le (by omega) (by omega) (by omega) (by omega)]
    refine ⟨fun c => c_debtAt (by omega) hB B3 (by omega) (by omega) ?_, fun c => ⟨z01, ?_⟩⟩
    · rw [(hR.2.2.2.1 (6 * b + k) (by omega)).2, toI_int, iN_add]
      rw [if_pos c] at h
      refine c_stands (by omega) hB B3 (by omega) (by omega) (by omega) a2 (by omega) (by omega) ⟨o01, h _ ?_ (FrW_stands (by omega))⟩
      have r := RR_stands (i := 6 * b + k) (who := a) (v := C 7 (6 * b + k) + n) hV hR (by omega) (by omega) a2
      rw [if_neg (by omega)] at r
      have e2 : upd2 C 6 (6 * b + k) a = C := by
        have := upd2_id C 6 (6 * b + k)
        rw [k3] at this
        exact this
      rw [e2] at r
      exact r
    · rw [if_neg c] at h
      exact h A hR (FrW.rf B A)
theorem nmT_y {T : Ch} (h : (nmT T).1 = true) : (nmT T).2 = T ∧ T 0 3 = 1 := by
  unfold nmT at h ⊢
  by_cases c : T 0 3 = 1 ∧ T 0 7 ≤ 8 ∧ T 0 8 = -1
  · rw [if_pos c]; exact ⟨rfl, c.1⟩
  · rw [if_neg c] at h; cases h
theorem nmT_n {T : Ch} (h : (nmT T).1 = false) : (nmT T).2 = rfT T 2 := by
  unfold nmT at h ⊢
  by_cases c : T 0 3 = 1 ∧ T 0 7 ≤ 8 ∧ T 0 8 = -1
  · rw [if_pos c] at h; cases h
  · rw [if_neg c]
theorem kwT_y {T : Ch} {k : Int} (h : (kwT T k).1 = true) : (kwT T k).2 = T := by
  unfold kwT at h ⊢
  by_cases c : T 0 8 = k
  · rw [if_pos c]
  · rw [if_neg c] at h; cases h
theorem stSg_y {T : Ch} {k : Int} (h : (stSg T k).1 = true) : (stSg T k).2 = T := by
  unfold stSg at h ⊢
  by_cases c : T 0 3 = 3 ∧ T 0 6 = k
  · rw [if_pos c]
  · rw [if_neg c] at h; cases h
theorem NR.zp {C Z Z' : Ch} {b : Nat} (h : NR C Z b) (z : ∀ k, 32 ≤ k → k < 40 → Z' 2 k = Z 2 k) (hV : VB C) (hb : b = 32) : NR C Z' b := fun s hs => by
  have := hV.n
  rw [z (b + s) (by omega) (by omega)]
  exact h s hs
theorem ZP.nm {Z Z' : Ch} (h : ZP Z Z') : ∀ k, 32 ≤ k → k < 40 → Z' 2 k = Z 2 k := fun k _ _ => h 2 k (by omega)
/-- a choir that is being read, between two parts -/
def PQ (C Z : Ch) (A : Nat → Int) : Prop := WC C ∧ C 0 12 = 0 ∧ RR C A 2408 ∧ UZ C A ∧ NR C Z 32
theorem PQ.zp {C Z Z' : Ch} {A : Nat → Int} (h : PQ C Z A) (z : ZP Z Z') : PQ C Z' A := ⟨h.1, h.2.1, h.2.2.1, h.2.2.2.1, h.2.2.2.2.zp z.nm h.1.1 rfl⟩
set_option maxHeartbeats 2000000 in
theorem r_aSinger {l : Launch} {E : EnvT} {d : Nat} {K : AV → Mem → Prop} {M : Mem} {X : Nat → Int} {L : Nat} {p : Int} {T C Z : Ch} {A : Nat → Int} (hd : 8 ≤ d) (hX : XBn X) (L9 : L ≤ 900) (ok : OKT X L p T Z) (k8 : T 0 8 ≠ -1) (pq : PQ C Z A) (hy : (sS0 X L T C).1 = true → ∀ (Z' : Ch) (A' : Nat → Int), ZC Z Z' → FrN A A' → OKT X L (T 0 4 + 1) (sS0 X L T C).2.1 Z' → PQ (sS0 X L T C).2.2 Z' A' → K (.int (iN 1), 0) (zA M Z' A')) (hn : (sS0 X L T C).1 = false → ∀ (Z' : Ch) (A' : Nat → Int), ZC Z Z' → FrN A A' → FZ (sS0 X L T C).2.1 Z' → K (.int (iN 0), 0) (zA M Z' A')) : CT l E d m_Mod_aSinger [(.ref 24, 41)] (zA M Z A) K := by
  refine CT.of pn_Mod (Nat.le_of_ble_eq_true rfl) ?_
  obtain ⟨hW, h12, hR, hU, hN⟩ := pq
  have hV := hW.1
  have n0 := hV.n
  obtain ⟨n, hn8⟩ : ∃ n : Nat, C 0 8 = n := ⟨(C 0 8).toNat, (by omega)⟩
  have tn : (C 0 8).toNat = n := by rw [hn8]; rfl
  have f0 : A 2408 = C 0 8 := hR.1.1
  refine b_Mod_aSinger_0 (by omega) ?_
  rw [zA_1, clA (z := 2408) (j := 2408) rfl (by omega), f0]
  refine ⟨inA (by omega) (by omega), c_singerRow (by omega) ?_⟩
  rw [toI_int, iN_eq (b := 8) (by omega) (by omega) (by omega) (by omega)]
  unfold sS0 at hy hn
  refine ⟨fun c => ?_, fun c => r_fails (by omega) ok (by omega) (by omega) (fun Z' z1 z2 => ⟨z01, ?_⟩)⟩
  · rw [if_pos (by omega)] at hy hn
    refine r_next1 (by omega) hX L9 ok k8 (fun Z1 z1 ok1 => ?_)
    unfold sS1 at hy hn
    refine r_isName (by omega) hX L9 ok1 ?_
    rw [toI_int, b2i_z]
    refine ⟨fun c1 => ?_, fun c1 => r_fails (by omega) ok1 (by omega) (by omega) (fun Z2 z2 f2 => ⟨z01, ?_⟩)⟩
    · rw [Bool.not_eq_false] at c1
      have ny := nmT_y c1
      rw [if_pos c1, ny.1] at hy hn
      have N1 : NR C Z1 32 := hN.zp z1.nm hV rfl
      have fr := findC_rng hV (lI (advT X L T 0 9))
      refine r_findHere (b := 32) (by omega) hX L9 ok1 c1 hV N1 (by omega) ?_
      rw [toI_int, iN_eq (b := -1) (by omega) (by omega) (by omega) (by omega)]
      refine ⟨fun c2 => ?_, fun c2 => r_fails (by omega) ok1 (by omega) (by omega) (fun Z2 z2 f2 => ⟨z01, ?_⟩)⟩
      · rw [if_pos c2] at hy hn
        refine r_nameHere (by omega) hX L9 ok1 c1 (fun y hyy => ?_)
        have yr := hyy.rng
        rw [toL_long, lI_small (by omega) (by omega), iN_add, hn8, cl4 (z := 32 + (n : Int)) (j := 32 + n) (by omega) (by omega), zA_uo M Z1 A (show 2 ≠ 1 by decide)]
        refine ⟨iN_in (by omega) (by omega) (by omega), ?_⟩
        refine r_next (by omega) hX L9 ok1.z2 (by rw [ny.2]; decide) (fun Z2 z2 ok2 => ?_)
        unfold sS2 at hy hn
        have zc2 : ZC Z Z2 := fun a b q1 q2 => by
          rw [z2 a b (by omega), upd2_nn _ (by omega)]
          exact z1 a b (by omega)
        refine r_wantWord (k := 1) (by omega) hX L9 ok2 (by omega) (by omega) (fun q Z3 z3 ok3 => ?_) (fun q Z3 z3 f3 => ?_)
        · rw [toI_int]
          refine ⟨fun c => absurd c (by decide +kernel), fun _ => ?_⟩
          rw [if_pos q, kwT_y q] at hy hn
          rw [kwT_y q] at ok3
          unfold sS3 at hy hn
          rw [iN_add, show (2408 : Int) + (6 + 8 * (n : Int)) = ((2414 + 8 * n : Nat) : Int) by omega]
          refine r_number (j := 2414 + 8 * n) (by omega) hX L9 ok3 (by omega) (by omega) (by omega) (by omega) (by omega) (fun q4 Z4 z4 ok4 => ?_) (fun q4 Z4 z4 f4 => ?_)
          · rw [toI_int]
            refine ⟨fun _ => ?_, fun c => absurd c (by decide +kernel)⟩
            have nu := nuT_y q4
            rw [if_pos q4, nu.1, tn] at hy hn
            rw [nu.1] at ok4
            generalize hT3 : advT X L (advT X L (advT X L T)) = T3 at hy hn ok4 nu
            have w8 := hW.2.2.2.2.2.2.2.2.1
            have w2 := hW.2.2.1
            have hA1 : ∀ j, j ≠ 2414 + 8 * n → updP A (2414 + 8 * n) (T3 0 5) j = A j := fun j hj => updP_ne _ _ hj
            have uz : ∀ j, (j = 2 ∨ j = 3 ∨ j = 4 ∨ j = 6) → updP A (2414 + 8 * n) (T3 0 5) (2408 + 6 + 8 * n + j) = 0 := fun j hj => by
              rw [hA1 _ (by omega)]
              exact hU n (by omega) (by omega) j hj
            have R0 : RR C (updP A (2414 + 8 * n) (T3 0 5)) 2408 := by
              have := RR_oth (n := n) (j := 0) (v := T3 0 5) hV hR (by omega) (by omega) (by omega)
              exact this
            have R1 := RR_add (w := advT X L T 0 9) (p := T3 0 5) hW R0 hn8 (by omega) (updP_same _ _ _) (uz 2 (by omega)) (uz 3 (by omega)) (uz 4 (by omega)) (uz 6 (by omega))
            have W1' := WC_addS (w := advT X L T 0 9) (p := T3 0 5) hW hn8 (by omega) nu.2.2.1 (by omega)
            have bits : ∀ j, 9 ≤ j → j ≤ 12 → addSingerC C (advT X L T 0 9) (T3 0 5) 0 j = C 0 j := fun j a b => by rw [addS_0, if_neg (by omega)]
            have z4' : ZC Z Z4 := fun a b q1 q2 => by
              rw [z4 a b (by omega), z3 a b (by omega)]
              exact zc2 a b q1 q2
            have nm4 : ∀ k, Z4 2 k = upd2 Z1 2 (32 + n) y 2 k := fun k => by
              rw [z4 2 k (by omega), z3 2 k (by omega), z2 2 k (by omega)]
            refine r_aSv (n := n) (by omega) hX L9 (by omega) 4 (advT X L T3) (addSingerC C (advT X L T 0 9) (T3 0 5)) Z4 (updP A (2414 + 8 * n) (T3 0 5)) ?_ ok4 ⟨W1', ?_, fun i hi he => ?_, ?_⟩ ?_ ?_ R1 (fun a Z5 A5 b c d e f g i => ?_) (fun a Z5 A5 b c e => ?_)
            · unfold cntV
              rw [bits 9 (by omega) (by omega), bits 10 (by omega) (by omega), bits 11 (by omega) (by omega), w8 9 (by omega) (by omega) n (by omega), w8 10 (by omega) (by omega) n (by omega), w8 11 (by omega) (by omega) n (by omega)]
              rfl
            · rw [addS_0, if_pos rfl, hn8]
            · rw [addS_c (by omega)]
              by_cases q6 : C 6 i = -1
              · exact q6
              · have := (w2 i hi q6).1
                omega
            · rw [bits 12 (by omega) (by omega)]; exact h12
            · rw [addS_4, tn, if_pos rfl]
            · rw [hA1 _ (by omega), f0]; exact hn8
            · refine hy a Z5 A5 (fun x k q1 q2 => by rw [b x k (by omega)]; exact z4' x k q1 q2) (fun j hj => by rw [c j hj, hA1 _ (by omega)]) e ⟨g.1, g.2.2.2, f, fun s s1 s2 j hj => ?_, fun s hs => ?_⟩
              · rw [g.2.1] at s1
                rw [d s j (by omega) s2 (by omega), hA1 _ (by omega)]
                exact hU s (by omega) s2 j hj
              · rw [g.2.1] at hs
                rw [i, addS_1, tn, b 2 (32 + s) (by omega), nm4]
                by_cases q6 : s = n
                · subst q6
                  rw [if_pos rfl, upd2_same]
                  exact hyy
                · rw [if_neg q6, upd2_k _ _ (by omega)]
                  exact N1 s (by omega)
            · exact hn a Z5 A5 (fun x k q1 q2 => by rw [b x k (by omega)]; exact z4' x k q1 q2) (fun j hj => by rw [c j hj, hA1 _ (by omega)]) e
          · rw [toI_int]
            refine ⟨fun c => absurd (by decide +kernel) c, fun _ => ⟨z01, ?_⟩⟩
            rw [if_neg (by rw [q4]; decide)] at hn
            exact hn rfl Z4 A (fun a b q1 q2 => by rw [z4 a b (by omega), z3 a b (by omega)]; exact zc2 a b q1 q2) (FrN.rf _) f4
        · rw [toI_int]
          refine ⟨fun _ => ⟨z01, ?_⟩, fun c => absurd (by decide +kernel) c⟩
          rw [if_neg (by rw [q]; decide)] at hn
          exact hn rfl Z3 A (fun a b q1 q2 => by rw [z3 a b (by omega)]; exact zc2 a b q1 q2) (FrN.rf _) f3
      · rw [if_neg c2] at hn
        exact hn rfl Z2 A (z1.tr z2).c (FrN.rf _) f2
    · rw [if_neg (by rw [c1]; decide), nmT_n c1] at hn
      exact hn rfl Z2 A (z1.tr z2).c (FrN.rf _) f2
  · rw [if_neg (by omega)] at hn
    exact hn rfl Z' A z1.c (FrN.rf _) z2
theorem r_twoTo {l : Launch} {E : EnvT} {d : Nat} {K : AV → Mem → Prop} {M : Mem} {X : Nat → Int} {L : Nat} {p : Int} {T C Z : Ch} {A : Nat → Int} (hd : 8 ≤ d) (hX : XBn X) (L9 : L ≤ 900) (ok : OKT X L p T Z) (k8 : T 0 8 ≠ -1) (hV : VB C) (f0 : A 2408 = C 0 8) (hN : NR C Z 32) (hy : ∀ (a b : Nat) (T2 : Ch), sgT (advT X L T) C (-1) = ((a : Int), advT X L T) → sgT (advT X L (advT X L T)) C a = ((b : Int), T2) → (a : Int) < C 0 8 → (b : Int) < C 0 8 → a ≠ b → ∀ Z', ZP Z Z' → OKT X L (T 0 4 + 1) (advT X L T2) Z' → K (.int (iN 1), 0) (zA M Z' (updP (updP A 3006 a) 3007 b))) (h1 : ∀ T2, sgT (advT X L T) C (-1) = (-1, T2) → ∀ (Z' : Ch) (A' : Nat → Int), ZP Z Z' → FrN A A' → FZ T2 Z' → K (.int (iN 0), 0) (zA M Z' A')) (h2 : ∀ (a : Nat) (T2 : Ch), sgT (advT X L T) C (-1) = ((a : Int), advT X L T) → sgT (advT X L (advT X L T)) C a = (-1, T2) → ∀ (Z' : Ch) (A' : Nat → Int), ZP Z Z' → FrN A A' → FZ T2 Z' → K (.int (iN 0), 0) (zA M Z' A')) : CT l E d m_Mod_twoTo [(.ref 24, 41)] (zA M Z A) K := by
  refine CT.of pn_Mod (Nat.le_of_ble_eq_true rfl) ?_
  have n0 := hV.n
  refine b_Mod_twoTo_0 (by omega) (r_next1 (by omega) hX L9 ok k8 (fun Z1 z1 ok1 => ?_))
  rw [zA_1, clA (z := 2408) (j := 2408) rfl (by omega), f0]
  refine ⟨inA (by omega) (by omega), ?_⟩
  have N1 : NR C Z1 32 := hN.zp z1.nm hV rfl
  refine r_oldOne (b := 32) (j := 3006) (by omega) hX L9 ok1 hV N1 (by omega) (by omega) (fun c1 c2 Z2 z2 ok2 => ?_) (fun c1 c2 Z2 z2 f2 => ?_) (fun c1 Z2 z2 f2 => ?_)
  · rw [toI_int]
    refine ⟨fun _ => ?_, fun c => absurd c (by decide +kernel)⟩
    obtain ⟨a, ha, ha8⟩ : ∃ a : Nat, findC C (lI (advT X L T 0 9)) = a ∧ (a : Int) < C 0 8 := by
      rcases findC_s hV (lI (advT X L T 0 9)) with e | e
      · exact absurd e c2
      · exact e
    have s1 : sgT (advT X L T) C (-1) = ((a : Int), advT X L T) := by
      unfold sgT
      rw [if_pos c1, if_neg c2, if_neg c2, ha]
    have N2 : NR C Z2 32 := N1.zp z2.nm hV rfl
    have g0 : updP A 3006 (a : Int) 2408 = C 0 8 := by rw [updP_ne _ _ (by omega)]; exact f0
    rw [ha]
    refine r_isName (by omega) hX L9 ok2 ?_
    rw [toI_int, b2i_z]
    refine ⟨fun c3 => ?_, fun c3 => ?_⟩
    · rw [zA_1, g0, iN_add]
      refine ⟨inA (by omega) (by omega), ?_⟩
      refine r_oldOne (b := 32) (j := 3007) (by omega) hX L9 ok2 hV N2 (by omega) (by omega) (fun c4 => absurd c4 (by rw [c3]; decide)) (fun c4 => absurd c4 (by rw [c3]; decide)) (fun c4 Z3 z3 f3 => ⟨z01, ?_⟩)
      refine h2 a (nmT (advT X L (advT X L T))).2 s1 ?_ Z3 _ ((z1.tr z2).tr z3) (fun j hj => updP_ne _ _ (by omega)) f3
      unfold sgT
      rw [if_neg (by rw [c3]; decide)]
    · rw [Bool.not_eq_false] at c3
      rw [zA_1, g0]
      refine ⟨inA (by omega) (by omega), r_findHere (b := 32) (by omega) hX L9 ok2 c3 hV N2 (by omega) ?_⟩
      have fr := findC_rng hV (lI (advT X L (advT X L T) 0 9))
      rw [toI_int, zA_1, clA (z := 3006) (j := 3006) rfl (by omega), g0, updP_same, iN_eq (by omega) (by omega) (by omega) (by omega), iN_add]
      refine ⟨inA (by omega) (by omega), fun c4 => ⟨inA (by omega) (by omega), ?_⟩, fun c4 => r_fails (by omega) ok2 (by omega) (by omega) (fun Z3 z3 f3 => ⟨z01, ?_⟩)⟩
      · refine r_oldOne (b := 32) (j := 3007) (by omega) hX L9 ok2 hV N2 (by omega) (by omega) (fun c5 c6 Z3 z3 ok3 => ⟨o01, ?_⟩) (fun c5 c6 Z3 z3 f3 => ⟨z01, ?_⟩) (fun c5 => by rw [c3] at c5; cases c5)
        · obtain ⟨b, hb, hb8⟩ : ∃ b : Nat, findC C (lI (advT X L (advT X L T) 0 9)) = b ∧ (b : Int) < C 0 8 := by
            rcases findC_s hV (lI (advT X L (advT X L T) 0 9)) with e | e
            · exact absurd e c6
            · exact e
          rw [hb] at c4 ⊢
          refine hy a b (advT X L (advT X L T)) s1 ?_ ha8 hb8 (by omega) Z3 ((z1.tr z2).tr z3) ok3
          unfold sgT
          rw [if_pos c3, if_neg c6, hb, if_neg c4]
        · refine h2 a (rfT (advT X L (advT X L T)) 3) s1 ?_ Z3 _ ((z1.tr z2).tr z3) (fun j hj => by rw [updP_ne _ _ (by omega), updP_ne _ _ (by omega)]) f3
          unfold sgT
          rw [if_pos c3, if_pos c6]
      · refine h2 a (rfT (advT X L (advT X L T)) 5) s1 ?_ Z3 _ ((z1.tr z2).tr z3) (fun j hj => updP_ne _ _ (by omega)) f3
        unfold sgT
        rw [if_pos c3, if_neg (by omega), if_pos c4]
  · rw [toI_int]
    refine ⟨fun c => absurd (by decide +kernel) c, fun _ => ⟨z01, ?_⟩⟩
    refine h1 (rfT (advT X L T) 3) ?_ Z2 _ (z1.tr z2) (fun j hj => updP_ne _ _ (by omega)) f2
    unfold sgT
    rw [if_pos c1, if_pos c2]
  · rw [toI_int]
    refine ⟨fun c => absurd (by decide +kernel) c, fun _ => ⟨z01, ?_⟩⟩
    refine h1 (nmT (advT X L T)).2 ?_ Z2 A (z1.tr z2) (FrN.rf _) f2
    unfold sgT
    rw [if_neg (by rw [c1]; decide)]
