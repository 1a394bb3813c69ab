theorem upd2_comm (C : Ch) {c c' : Nat} (k k' : Nat) (v v' : Int) (h : c ≠ c') : upd2 (upd2 C c k v) c' k' v' = upd2 (upd2 C c' k' v') c k v := by
  funext x j
  unfold upd2
  by_cases e : x = c
  · subst e
    simp [h]
  · simp [e]
theorem RR_stands {C : Ch} {A : Nat → Int} {B i : Nat} {who v : Int} (hV : VB C) (hR : RR C A B) (hi : i < 48) (w1 : -1 ≤ who) (w2 : who < 8) : RR (upd2 (upd2 C 6 i (if v = 0 then -1 else who)) 7 i v) (stA A B i who v) B := by
  unfold stA
  refine RR_7 (VB_6 hV ?_ ?_) (RR_6 hV hR hi) hi
  · split <;> omega
  · split <;> omega
theorem FrA_stands {A : Nat → Int} {B i : Nat} {who v : Int} (hi : i < 48) : FrA B A (stA A B i who v) := by
  unfold stA
  exact ((FrA.rf B A).u _ (by omega) (by omega)).u _ (by omega) (by omega)
theorem slot_note {C : Ch} {x : Int} {b k : Nat} (h : noteOfC C x b = k) : slotOfC C x b = ((6 * b + k : Nat) : Int) := by
  rw [slotOf_note, h, if_neg (by omega)]
  push_cast
  rfl
theorem slot_note1 {C : Ch} {x : Int} {b : Nat} (h : noteOfC C x b = -1) : slotOfC C x b = -1 := by rw [slotOf_note, h, if_pos rfl]
theorem c_books {l : Launch} {E : EnvT} {d : Nat} {K : AV → Mem → Prop} {M : Mem} {C Z : Ch} {A : Nat → Int} {B b : Nat} {a n : Int} (hd : 4 ≤ d) (hB : Z 0 21 = B) (B3 : B ≤ 3010) (hV : VB C) (hR : RR C A B) (a1 : 0 ≤ a) (a2 : a < 8) (hb : (b : Int) < C 0 8) (n1 : 1 ≤ n) (n2 : n ≤ 999) (h : ∀ A', RR (oweC C a b n).2 A' B → FrA B A A' → K (.int (iN (b2i (oweC C a b n).1)), 0) (zA M Z A')) : CT l E d m_Mod_books [(.ref 24, 41), (.int (iN a), 0), (.int (iN b), 0), (.int (iN n), 0)] (zA M Z A) K := by
  refine CT.of pn_Mod (Nat.le_of_ble_eq_true rfl) ?_
  have hn := hV.n
  have hw := hV.w
  have f5 := hR.1.2.2.2.2
  unfold oweC at h
  refine b_Mod_books_0 (by omega) (c_noteOf (by omega) hB B3 hV hR hb (by omega) a2 ?_)
  rw [toI_int]
  rcases noteOf_rng hV a (b := b) (by omega) with e | ⟨k, e, k1, k2, k3⟩
  · rw [slot_note1 e] at h
    rw [if_neg (by simp)] at h
    rw [e]
    refine ⟨fun _ => c_waiterOf (by omega) hB B3 hV hR (by omega) a2 (by omega) (by omega) ?_, fun c => absurd rfl c⟩
    rw [toI_int]
    have c212 : ∀ (j : Nat) (D : Ch) (A' : Nat → Int), VB D → RR D A' B → FrA B A A' → (j : Int) < D 8 3 → (D 11 j + n ≤ 999 → ∀ A'', RR (upd2 D 11 j (D 11 j + n)) A'' B → FrA B A A'' → K (.int (iN 1), 0) (zA M Z A'')) → (¬ D 11 j + n ≤ 999 → K (.int (iN 0), 0) (zA M Z A')) → G l E d m_Mod_books 212 [(0, (.ref 24, 41)), (3, (.int (iN n), 0)), (5, (.int (iN j), 0))] [] (zA M Z A') K := by
      intro j D A' vD rD fD hj h1 h2
      have w := vD.w
      have wm := vD.wm j (by omega)
      have q := rD.2.2.2.2 j hj
      refine b_Mod_books_212 (by omega) ?_
      simp only [zA_0, zA_1, zA_u, hB, iN_add, iN_mul]
      rw [clA (z := (B : Int) + 214 + 3 * j + 2) (j := B + 214 + 3 * j + 2) (by omega) (by omega), q.2.2, iN_le (by omega) (by omega) (by omega) (by omega), iN_small (by omega) (by omega)]
      refine ⟨inA (by omega) (by omega), fun c => ⟨inA (by omega) (by omega), inA (by omega) (by omega), o01, h1 c _ ?_ (fD.u _ (by omega) (by omega))⟩, fun c => ⟨z01, h2 c⟩⟩
      refine RR_w vD rD (fun c hc => upd2_c _ _ (by omega)) (fun i i1 i2 i3 => updP_ne _ _ (by omega)) ?_ (fun i hi => ?_)
      · rw [updP_ne _ _ (by omega), upd2_c _ _ (by decide)]; exact rD.1.2.2.2.2
      · rw [upd2_c _ _ (by decide)] at hi
        have qi := rD.2.2.2.2 i hi
        rw [updP_ne _ _ (by omega), updP_ne _ _ (by omega), updP_at, upd2_c _ _ (by decide), upd2_c _ _ (by decide), upd2_at]
        refine ⟨qi.1, qi.2.1, ?_⟩
        by_cases c : i = j
        · rw [if_pos (by omega), if_pos c]
        · rw [if_neg (by omega), if_neg c]; exact qi.2.2
    rcases placeOf_rng hV a b with pe | ⟨k, pe, k1, k2, k3, k4⟩
    · rw [pe] at h ⊢
      rw [if_neg (by simp)] at h
      refine ⟨fun c => absurd rfl c, fun _ => c_noteOf (by omega) hB B3 hV hR hb (by omega) (by omega) ?_⟩
      rw [toI_int]
      rcases noteOf_rng hV (-1) (b := b) (by omega) with fe | ⟨j, fe, j1, j2, j3⟩
      · rw [fe]
        rw [slot_note1 fe, if_pos rfl] at h
        refine ⟨fun _ => ⟨fun c => absurd rfl c, fun _ => ?_⟩, fun c => absurd rfl c⟩
        simp only [zA_0, zA_1, hB, iN_add]
        rw [clA (z := (B : Int) + 5) (j := B + 5) (by omega) (by omega), f5, iN_eq (by omega) (by omega) (by omega) (by omega)]
        refine ⟨inA (by omega) (by omega), fun c8 => ⟨fun c => absurd trivial c, fun _ => ⟨inA (by omega) (by omega), ?_⟩⟩, fun c8 => ⟨z01, ?_⟩⟩
        · rw [if_pos (show C 8 3 < 8 by omega)] at h
          obtain ⟨w, hw'⟩ : ∃ w : Nat, C 8 3 = w := ⟨(C 8 3).toNat, (by omega)⟩
          rw [hw']
          refine b_Mod_books_136 (by omega) ?_
          simp only [zA_0, zA_u, hB, iN_add, iN_mul]
          rw [clA (z := (B : Int) + 214 + 3 * w) (j := B + 214 + 3 * w) (by omega) (by omega), iN_small (by omega) (by omega)]
          refine ⟨inA (by omega) (by omega), b_Mod_books_155 (by omega) ?_⟩
          simp only [zA_0, zA_u, hB, iN_add, iN_mul]
          rw [clA (z := (B : Int) + 214 + 3 * w + 1) (j := B + 214 + 3 * w + 1) (by omega) (by omega), iN_small (by omega) (by omega)]
          refine ⟨inA (by omega) (by omega), b_Mod_books_176 (by omega) ?_⟩
          simp only [zA_0, zA_u, hB, iN_add, iN_mul, iN_0I]
          rw [clA (z := (B : Int) + 214 + 3 * w + 2) (j := B + 214 + 3 * w + 2) (by omega) (by omega)]
          refine ⟨inA (by omega) (by omega), b_Mod_books_197 (by omega) ?_⟩
          simp only [zA_0, zA_1, zA_u, hB, iN_add]
          rw [clA (z := (B : Int) + 5) (j := B + 5) (by omega) (by omega), updP_ne _ _ (by omega), updP_ne _ _ (by omega), updP_ne _ _ (by omega), f5, hw', iN_small (by omega) (by omega)]
          have jw : joinC C a b 0 8 3 = (w : Int) + 1 := by rw [joinC_8, hw']
          have jm : joinC C a b 0 11 w = 0 := by rw [joinC_11, if_pos (by rw [hw']; rfl)]
          refine ⟨inA (by omega) (by omega), inA (by omega) (by omega), c212 w (joinC C a b 0) _ (VB_join hV (by omega) a1 a2 (by omega) (by omega) (by omega) (by omega)) ?_ ?_ (by rw [jw]; omega) (fun _ A'' r'' f'' => ?_) (fun c => ?_)⟩
          · refine RR_w hV hR (fun c hc => joinC_c hc) (fun i i1 i2 i3 => ?_) (by rw [updP_same, jw]) (fun i hi => ?_)
            · rw [updP_ne _ _ (by omega), updP_ne _ _ (by omega), updP_ne _ _ (by omega), updP_ne _ _ (by omega)]
            · rw [jw] at hi
              rw [joinC_9, joinC_10, joinC_11, show (C 8 3).toNat = w by omega]
              by_cases c : i = w
              · subst c
                rw [if_pos rfl, if_pos rfl, if_pos rfl]
                refine ⟨?_, ?_, ?_⟩
                · rw [updP_ne _ _ (by omega), updP_ne _ _ (by omega), updP_ne _ _ (by omega), updP_same]
                · rw [updP_ne _ _ (by omega), updP_ne _ _ (by omega), updP_same]
                · rw [updP_ne _ _ (by omega), updP_same]
              · rw [if_neg c, if_neg c, if_neg c]
                have qi := hR.2.2.2.2 i (by omega)
                refine ⟨?_, ?_, ?_⟩
                · rw [updP_ne _ _ (by omega), updP_ne _ _ (by omega), updP_ne _ _ (by omega), updP_ne _ _ (by omega)]; exact qi.1
                · rw [updP_ne _ _ (by omega), updP_ne _ _ (by omega), updP_ne _ _ (by omega), updP_ne _ _ (by omega)]; exact qi.2.1
                · rw [updP_ne _ _ (by omega), updP_ne _ _ (by omega), updP_ne _ _ (by omega), updP_ne _ _ (by omega)]; exact qi.2.2
          · exact ((((FrA.rf B A).u _ (by omega) (by omega)).u _ (by omega) (by omega)).u _ (by omega) (by omega)).u _ (by omega) (by omega)
          · refine h A'' ?_ f''
            rw [jm, show (0 : Int) + n = n by omega] at r''
            have e : upd2 (joinC C a b 0) 11 w n = joinC C a b n := by
              unfold joinC
              rw [hw', show ((w : Int)).toNat = w from rfl, upd2_comm _ _ _ _ _ (show 8 ≠ 11 by decide), upd2_twice]
            rw [e] at r''
            exact r''
          · rw [jm] at c; omega
        · rw [if_neg (show ¬ C 8 3 < 8 by omega)] at h
          exact h A hR (FrA.rf B A)
      · rw [fe]
        rw [slot_note fe, if_neg (by omega)] at h
        rw [iN_eq (by omega) (by omega) (by omega) (by omega)]
        refine ⟨fun c => absurd c (by omega), fun _ => c_stands (by omega) hB B3 (by omega) (by omega) (by omega) a2 (by omega) (by omega) ⟨o01, h _ ?_ (FrA_stands (by omega))⟩⟩
        have r := RR_stands (i := 6 * b + j) (who := a) (v := n) hV hR (by omega) (by omega) a2
        rw [if_neg (show ¬ n = 0 by omega)] at r
        exact r
    · rw [pe] at h ⊢
      rw [if_pos (by omega), show ((k : Int)).toNat = k from rfl] at h
      rw [iN_eq (by omega) (by omega) (by omega) (by omega)]
      refine ⟨fun _ => ⟨fun _ => ⟨fun _ => ⟨fun _ => c212 k C A hV hR (FrA.rf B A) (by omega) (fun c A'' r'' f'' => ?_) (fun c => ?_), fun c => absurd c (by omega)⟩, fun c => absurd c (by omega)⟩, fun c => absurd rfl c⟩, fun c => absurd c (by omega)⟩
      · rw [if_pos c] at h; exact h A'' r'' f''
      · rw [if_neg c] at h; exact h A hR (FrA.rf B A)
  · rw [slot_note e, if_pos (by omega), show (((6 * b + k : Nat) : Int)).toNat = 6 * b + k from rfl] at h
    rw [e, iN_eq (by omega) (by omega) (by omega) (by omega)]
    have de := hV.de (6 * b + k) (by omega)
    refine ⟨fun c => absurd c (by omega), fun _ => c_debtAt (by omega) hB B3 (by omega) (by omega) ?_⟩
    rw [(hR.2.2.2.1 (6 * b + k) (by omega)).2, toI_int, iN_add, iN_le (by omega) (by omega) (by omega) (by omega)]
    refine ⟨fun c => c_debtAt (by omega) hB B3 (by omega) (by omega) ?_, fun c => ⟨z01, ?_⟩⟩
    · rw [(hR.2.2.2.1 (6 * b + k) (by omega)).2, toI_int, iN_add]
      rw [if_pos c] at h
      refine c_stands (by omega) hB B3 (by omega) (by omega) (by omega) a2 (by omega) (by omega) ⟨o01, h _ ?_ (FrA_stands (by omega))⟩
      have r := RR_stands (i := 6 * b + k) (who := a) (v := C 7 (6 * b + k) + n) hV hR (by omega) (by omega) a2
      rw [if_neg (by omega)] at r
      have e2 : upd2 C 6 (6 * b + k) a = C := by
        have := upd2_id C 6 (6 * b + k)
        rw [k3] at this
        exact this
      rw [e2] at r
      exact r
    · rw [if_neg c] at h
      exact h A hR (FrA.rf B A)
theorem c_fills {l : Launch} {E : EnvT} {d : Nat} {K : AV → Mem → Prop} {M : Mem} {C Z : Ch} {A : Nat → Int} {B : Nat} (hd : 4 ≤ d) (hB : Z 0 21 = B) (B3 : B ≤ 3010) (hW : WC C) (hR : RR C A B) (h : ∀ A', RR (settleC C) A' B → FrA B A A' → K (.null, 0) (zA M Z A')) : CT l E d m_Mod_fills [(.ref 24, 41)] (zA M Z A) K := by
  refine CT.of pn_Mod (Nat.le_of_ble_eq_true rfl) ?_
  have key : ∀ (f k : Nat) (D : Ch) (A' : Nat → Int), WC D → RR D A' B → FrA B A A' → k ≤ 100 → D 8 3 - k ≤ f → settleF f k D = settleC C → G l E d m_Mod_fills 2 [(0, (.ref 24, 41)), (1, (.int (iN k), 0))] [] (zA M Z A') K := by
    intro f
    induction f with
    | zero =>
      intro k D A' hD rD fD k9 hf he
      have he : D = settleC C := he
      have w := hD.1.w
      refine b_Mod_fills_2 (by omega) ?_
      simp only [zA_0, zA_1, hB, iN_add]
      rw [clA (z := (B : Int) + 5) (j := B + 5) (by omega) (by omega), rD.1.2.2.2.2]
      exact ⟨inA (by omega) (by omega), fun _ => h A' (he ▸ rD) fD, fun c => absurd ((iN_le (by omega) (by omega) (by omega) (by omega)).mpr (by omega)) c⟩
    | succ f ih =>
      intro k D A' hD rD fD k9 hf he
      have hV := hD.1
      have w := hV.w
      have hn := hV.n
      unfold settleF at he
      refine b_Mod_fills_2 (by omega) ?_
      simp only [zA_0, zA_1, hB, iN_add, iN_mul]
      rw [clA (z := (B : Int) + 5) (j := B + 5) (by omega) (by omega), rD.1.2.2.2.2, iN_le (by omega) (by omega) (by omega) (by omega)]
      refine ⟨inA (by omega) (by omega), fun c => ?_, fun c => ?_⟩
      · rw [if_neg (by omega)] at he
        exact h A' (he ▸ rD) fD
      · rw [if_pos (by omega)] at he
        have q := rD.2.2.2.2 k (by omega)
        have wa := hV.wa k (by omega)
        have wb := hV.wb k (by omega)
        have wm := hV.wm k (by omega)
        have w4 := hD.2.2.2.2.1 k (by omega)
        obtain ⟨y, hy⟩ : ∃ y : Nat, D 10 k = y := ⟨(D 10 k).toNat, (by omega)⟩
        rw [clA (z := (B : Int) + 214 + 3 * k) (j := B + 214 + 3 * k) (by omega) (by omega), clA (z := (B : Int) + 214 + 3 * k + 1) (j := B + 214 + 3 * k + 1) (by omega) (by omega), q.1, q.2.1, hy]
        rw [hy, show ((y : Int)).toNat = y from rfl] at he
        rw [hy] at w4 wb
        refine ⟨inA (by omega) (by omega), inA (by omega) (by omega), c_noteOf (by omega) hB B3 hV rD w4.2.1 (by omega) (by omega) ?_⟩
        rw [toI_int]
        rcases noteOf_rng hV (-1) (b := y) (by omega) with e | ⟨j, e, j1, j2, j3⟩
        · rw [e]
          rw [slot_note1 e, if_pos rfl] at he
          exact ⟨fun c => absurd rfl c, fun _ => ih (k + 1) D A' hD rD fD (by omega) (by push_cast; omega) he⟩
        · rw [e]
          rw [slot_note e, if_neg (by omega), show (((6 * y + j : Nat) : Int)).toNat = 6 * y + j from rfl] at he
          rw [iN_eq (by omega) (by omega) (by omega) (by omega)]
          refine ⟨fun _ => c_leaves (by omega) hB B3 hV rD (by omega) (fun A2 r2 f2 => ?_), fun c => absurd c (by omega)⟩
          rw [toI_int]
          have vL := VB_leave hV k (by omega)
          refine c_stands (by omega) hB B3 (by omega) (by omega) (by omega) (by omega) (by omega) (by omega) ?_
          have r3 := RR_stands (i := 6 * y + j) (who := D 9 k) (v := D 11 k) vL r2 (by omega) (by omega) (by omega)
          rw [if_neg (by omega)] at r3
          rw [leave_place] at he
          have wc : WC (upd2 (upd2 (leaveC D k) 6 (6 * y + j) (D 9 k)) 7 (6 * y + j) (D 11 k)) := by
            have ib : (6 * y + j) / 6 = y := (by omega)
            have z0 : leaveC D k 0 = D 0 := leaveC_c (by omega)
            have z4 : leaveC D k 4 = D 4 := leaveC_c (by omega)
            have z6 : leaveC D k 6 = D 6 := leaveC_c (by omega)
            refine WC_place (WC_leave hD (by omega)) (by omega) ?_ ?_ wa.1 ?_ ?_ ?_ ?_ ?_ ?_ w4.2.2.2.1 wm.2
            · rw [z0, ib]; exact w4.2.1
            · rw [z4, ib]; omega
            · rw [z0]; exact w4.1
            · rw [ib]; exact w4.2.2.1
            · unfold alv; rw [z0]; exact w4.2.2.2.2.1
            · unfold alv; rw [z0, ib]; exact w4.2.2.2.2.2
            · intro i hi hil
              rw [z6]
              exact hD.2.2.2.2.2.2.1 k (by omega) i hi (by rw [hil, ib, hy])
            · intro i hi q2 r
              rw [leaveC_8] at hi
              rw [leaveC_at D k (Or.inr (Or.inl rfl)) i hi, ib] at q2
              rw [leaveC_at D k (Or.inl rfl) i hi] at r
              have := hD.2.2.2.2.2.1 (if k ≤ i then i + 1 else i) k (by split <;> omega) (by omega) r (by rw [q2, hy])
              split at this <;> omega
          refine ih k _ _ wc r3 ((fD.tr f2).tr (FrA_stands (by omega))) k9 ?_ he
          rw [upd2_c _ _ (by decide), upd2_c _ _ (by decide), leaveC_8]
          omega
  have w := hW.1.w
  exact b_Mod_fills_0 (by omega) (key 8 0 C A hW hR (FrA.rf B A) (by omega) (by omega) rfl)
