/-- a token's kind, the class's and the reference's -/
def tkR (k : Int) : Int := if k = 4 then 1 else if k = 0 then 0 else k + 1
def TW (X : Nat → Int) (L : Nat) (T : Ch) : Prop := ∃ q n : Nat, T 0 4 = q ∧ T 0 7 = n ∧ T 0 2 = ((q + n : Nat) : Int) ∧ q + n ≤ L ∧ 1 ≤ n ∧ (∀ j, j < n → 97 ≤ X (q + j) ∧ X (q + j) ≤ 122) ∧ T 0 9 = w27 X q (min n 8) ∧ T 0 8 = if n ≤ 8 then kwA (T 0 9) else -1
/-- the class's token and the reference's -/
def TZ (X : Nat → Int) (L : Nat) (T Z : Ch) : Prop := TX X L Z ∧ Z 0 13 = T 0 4 ∧ Z 0 12 = tkR (T 0 3) ∧ (T 0 3 ≠ 4 → Z 0 14 = T 0 2) ∧ (T 0 3 = 2 → Z 0 15 = T 0 5) ∧ (T 0 3 = 3 → Z 0 15 = T 0 6 ∧ (T 0 6 = 59 ∨ T 0 6 = 60 ∨ T 0 6 = 61 ∨ T 0 6 = 62)) ∧ (T 0 3 = 1 → TW X L T) ∧ (T 0 3 ≠ 1 → T 0 8 = -1) ∧ (-1 ≤ Z 0 15 ∧ Z 0 15 ≤ 100000)
theorem tok0_4 (X : Nat → Int) (T : Ch) (L q : Nat) : tok0 X L T q 0 4 = q := by simp [tok0, upd2]
theorem tok0_8 (X : Nat → Int) (T : Ch) (L q : Nat) : tok0 X L T q 0 8 = -1 := by simp [tok0, upd2]
theorem r_aheadQ {l : Launch} {E : EnvT} {d : Nat} {K : AV → Mem → Prop} {M : Mem} {Z T : Ch} {A : Nat → Int} {X : Nat → Int} {L q : Nat} (hd : 3 ≤ d) (hX : XBn X) (L9 : L ≤ 900) (q1 : q ≤ L) (nb : ¬ (q < L ∧ X q = 32)) (nb2 : ¬ (q < L ∧ X q = 10)) (e14 : Z 0 14 = q) (t : TX X L Z) (h : ∀ Z', ZT Z Z' → TZ X L (tok1 X L (tok0 X L T q)) Z' → K (.null, 0) (zA M Z' A)) : G l E d m_Mod_ahead 0 [(0, (.ref 24, 41))] [] (zA M Z A) K := by
  have br := bA_rng (X := X) (L := L) q
  have b32 := bA_i (p := q) hX L9 (v := 32) (by omega) (by omega)
  have b10 := bA_i (p := q) hX L9 (v := 10) (by omega) (by omega)
  have f2 := tok0_2 X T L q
  have f3 := tok0_3 X T L q
  have f4 := tok0_4 X T L q
  have f8 := tok0_8 X T L q
  generalize tok0 X L T q = T0 at h f2 f3 f4 f8
  refine b_Mod_ahead_0 (by omega) ?_
  rw [zA_0, e14]
  refine r_byteAt (by omega) t hX L9 (by omega) ?_
  rw [toI_int, iN_eq (by omega) (by omega) (by omega) (by omega)]
  refine ⟨fun c => absurd (b32.mp c) nb, fun _ => ?_⟩
  rw [zA_0, e14]
  refine r_byteAt (by omega) t hX L9 (by omega) ?_
  rw [toI_int, iN_eq (by omega) (by omega) (by omega) (by omega)]
  refine ⟨fun _ => ?_, fun c => absurd (b10.mp c) nb2⟩
  rw [zA_0, e14, iN_small (by omega) (by omega), zA_u0, zA_0, upd2_k _ _ (show 14 ≠ 13 by decide), e14]
  have t2 : TX X L (upd2 Z 0 13 q) := t.zt ((ZT.rf Z).u 13 _ (by omega) (by omega))
  refine r_byteAt (by omega) t2 hX L9 (by omega) ?_
  rw [toI_int, iN_eq (b := -1) (by omega) (by omega) (by omega) (by omega), iN_small (z := bA X L q) (by omega) (by omega), iN_small (z := 0) (by omega) (by omega), zA_u0, zA_u0]
  have zt3 : ∀ v, ZT Z (upd2 (upd2 Z 0 13 q) 0 15 v) := fun v => ((ZT.rf Z).u 13 _ (by omega) (by omega)).u 15 _ (by omega) (by omega)
  by_cases ql : q < L
  · have bq : bA X L q = X q % 256 := by unfold bA; rw [if_pos ql]
    have xq := hX q (by omega)
    rw [if_pos ql] at f3
    have bi := bA_in (p := q) hX L9 (a := 97) (b := 122) (by omega) (by omega)
    have bj := bA_in (p := q) hX L9 (a := 48) (b := 57) (by omega) (by omega)
    refine ⟨fun _ => r_isSmall (by omega) br.1 br.2 ?_, fun c => absurd c (by omega)⟩
    rw [toI_int, b2i_z, decide_eq_false_iff_not]
    refine ⟨fun c => r_isDigit (by omega) br.1 br.2 ?_, fun c => ?_⟩
    · rw [toI_int, b2i_z, decide_eq_false_iff_not]
      have ns : ¬ (97 ≤ X q ∧ X q ≤ 122) := fun w => c (bi.mpr ⟨ql, w⟩)
      refine ⟨fun c2 => ?_, fun c2 => ?_⟩
      · have nd : ¬ (48 ≤ X q ∧ X q ≤ 57) := fun w => c2 (bj.mpr ⟨ql, w⟩)
        have kf : kindF (X q) = if X q = 59 ∨ X q = 60 ∨ X q = 62 ∨ X q = 61 then 3 else 4 := by
          unfold kindF
          rw [if_neg ns, if_neg nd]
        rw [kf] at f3
        have sg : ∀ w : Int, w = (if X q = 59 ∨ X q = 60 ∨ X q = 62 ∨ X q = 61 then 4 else 1) → K (.null, 0) (zA M (upd2 (upd2 (upd2 (upd2 Z 0 13 q) 0 15 (bA X L q)) 0 14 ((q : Int) + 1)) 0 12 w) A) := by
          intro w hw
          refine h _ (((zt3 _).u 14 _ (by omega) (by omega)).u 12 _ (by omega) (by omega)) ?_
          by_cases c3 : X q = 59 ∨ X q = 60 ∨ X q = 62 ∨ X q = 61
          · rw [if_pos c3] at f3 hw
            have e : tok1 X L T0 = upd2 (upd2 T0 0 6 (X q)) 0 2 ((q : Int) + 1) := by
              unfold tok1
              rw [f3, if_neg (by decide), if_neg (by decide), if_pos rfl, f2, show ((q : Int)).toNat = q from rfl]
            rw [e, hw]
            refine ⟨t.zt (((zt3 _).u 14 _ (by omega) (by omega)).u 12 _ (by omega) (by omega)), ?_, ?_, fun _ => ?_, fun c4 => ?_, fun _ => ?_, fun c4 => ?_, fun _ => ?_, ?_⟩
            · simp [upd2, f4]
            · simp [upd2, f3, tkR]
            · simp [upd2]
            · exact absurd c4 (by simp [upd2, f3])
            · refine ⟨by simp [upd2]; omega, ?_⟩
              have e6 : upd2 (upd2 T0 0 6 (X q)) 0 2 ((q : Int) + 1) 0 6 = X q := by rw [upd2_k _ _ (by decide), upd2_same]
              rw [e6]
              omega
            · exact absurd c4 (by simp [upd2, f3])
            · simp [upd2, f8]
            · simp [upd2]; omega
          · rw [if_neg c3] at f3 hw
            have e : tok1 X L T0 = T0 := by
              unfold tok1
              rw [f3, if_neg (by decide), if_neg (by decide), if_neg (by decide)]
            rw [e, hw]
            refine ⟨t.zt (((zt3 _).u 14 _ (by omega) (by omega)).u 12 _ (by omega) (by omega)), ?_, ?_, fun c4 => ?_, fun c4 => ?_, fun c4 => ?_, fun c4 => ?_, fun _ => f8, ?_⟩
            · simp [upd2, f4]
            · simp [upd2, f3, tkR]
            · exact absurd f3 c4
            · rw [f3] at c4; exact absurd c4 (by decide)
            · rw [f3] at c4; exact absurd c4 (by decide)
            · rw [f3] at c4; exact absurd c4 (by decide)
            · simp [upd2]; omega
        rw [zA_0, upd2_k _ _ (show 14 ≠ 15 by decide), upd2_k _ _ (show 14 ≠ 13 by decide), e14, iN_add, iN_small (z := (q : Int) + 1) (by omega) (by omega), iN_small (z := 4) (by omega) (by omega), iN_small (z := 1) (by omega) (by omega)]
        simp only [zA_u0]
        rw [iN_eq (b := 59) (by omega) (by omega) (by omega) (by omega), iN_eq (b := 60) (by omega) (by omega) (by omega) (by omega), iN_eq (b := 62) (by omega) (by omega) (by omega) (by omega), iN_eq (b := 61) (by omega) (by omega) (by omega) (by omega)]
        refine ⟨fun c3 => sg _ ?_, fun c3 => ⟨fun c4 => sg _ ?_, fun c4 => ⟨fun c5 => sg _ ?_, fun c5 => ⟨fun c6 => sg _ ?_, fun c6 => sg _ ?_⟩⟩⟩⟩
        · rw [if_pos (by omega)]
        · rw [if_pos (by omega)]
        · rw [if_pos (by omega)]
        · rw [if_neg (by omega)]
        · rw [if_pos (by omega)]
      · have c3 := bj.mp (Classical.not_not.mp c2)
        have kf : kindF (X q) = 2 := by
          unfold kindF
          rw [if_neg ns, if_pos c3.2]
        rw [kf] at f3
        have e : tok1 X L T0 = numE T0 (rnF X (L - q) q 0 0) := by
          unfold tok1 numT
          rw [f3, if_neg (by decide), if_pos rfl, f2, show ((q : Int)).toNat = q from rfl]
        rw [zA_u0]
        have rr := rnF_rng X (L - q) q 0 0 (by omega) (by decide)
        refine r_ahead128 (q := q) (by omega) hX L9 (L - q) q 0 0 0 _ (by omega) (by omega) ?_ ?_ ?_ (by omega) (by omega) (fun _ => rfl) (by omega) (by decide) (t.zt ((zt3 _).u 15 _ (by omega) (by omega))) (fun Z' z1 z2 z3 z4 z5 z6 => h Z' (((zt3 _).u 15 _ (by omega) (by omega)).tr z1) ?_)
        · simp [upd2, e14]
        · simp [upd2]
        · simp [upd2]
        · rw [e]
          have tx := (t.zt ((zt3 (bA X L q)).u 15 0 (by omega) (by omega))).zt z1
          unfold numE
          by_cases n4 : (rnF X (L - q) q 0 0).2.1 ≤ 4
          · rw [if_pos n4] at z4
            rw [if_pos n4]
            refine ⟨tx, ?_, ?_, fun _ => ?_, fun _ => ?_, fun c4 => ?_, fun c4 => ?_, fun _ => ?_, (by omega)⟩
            · simp [tokN, upd2, f4, z2]
            · simp [tokN, upd2, f3, z4, tkR]
            · simp [tokN, upd2, z3]
            · simp [tokN, upd2]; exact z5 n4
            · exact absurd c4 (by simp [tokN, upd2, f3])
            · exact absurd c4 (by simp [tokN, upd2, f3])
            · simp [tokN, upd2, f8]
          · rw [if_neg n4] at z4
            rw [if_neg n4]
            refine ⟨tx, ?_, ?_, fun c4 => ?_, fun c4 => ?_, fun c4 => ?_, fun c4 => ?_, fun _ => ?_, (by omega)⟩
            · simp [tokN, upd2, f4, z2]
            · simp [tokN, upd2, z4, tkR]
            · exact absurd (by simp [tokN, upd2]) c4
            · exact absurd c4 (by simp [tokN, upd2])
            · exact absurd c4 (by simp [tokN, upd2])
            · exact absurd c4 (by simp [tokN, upd2])
            · simp [tokN, upd2, f8]
    · have c3 := bi.mp (Classical.not_not.mp c)
      have kf : kindF (X q) = 1 := by
        unfold kindF
        rw [if_pos c3.2]
      rw [kf] at f3
      obtain ⟨k, k1, k2, k3, k4, k5, k6, k7⟩ := rwF_spec X q (L - q) 0 0 rfl (fun j hj => absurd hj (by omega))
      rw [Nat.add_zero] at k1 k2 k3 k7
      have k8 := k7 c3.2.1 c3.2.2 (by omega)
      have ew : wordT X L T0 = tokW T0 ((q + k : Nat) : Int) k (w27 X q (min k 8)) := by
        unfold wordT
        rw [f2, show ((q : Int)).toNat = q from rfl, k1, k2, k3]
      have e : tok1 X L T0 = upd2 (tokW T0 ((q + k : Nat) : Int) k (w27 X q (min k 8))) 0 8 (if k ≤ 8 then kwA (w27 X q (min k 8)) else -1) := by
        unfold tok1
        rw [if_pos f3, ew]
        have a7 : tokW T0 ((q + k : Nat) : Int) k (w27 X q (min k 8)) 0 7 = k := by simp [tokW, upd2]
        have a9 : tokW T0 ((q + k : Nat) : Int) k (w27 X q (min k 8)) 0 9 = w27 X q (min k 8) := by simp [tokW, upd2]
        rw [a7, a9]
        by_cases q8 : k ≤ 8
        · rw [if_pos q8, if_pos (by omega)]
        · rw [if_neg q8, if_neg (by omega)]
      refine r_ahead81 (by omega) hX L9 (L - q) q 0 0 _ (by omega) ?_ (t.zt (zt3 _)) (fun Z' z1 z2 z3 z4 z5 => h Z' ((zt3 _).tr z1) ?_)
      · simp [upd2, e14]
      · rw [k1] at z4
        rw [e]
        have b13 : Z' 0 13 = q := by rw [z2]; simp [upd2]
        have b15 : Z' 0 15 = bA X L q := by rw [z3]; simp [upd2]
        refine ⟨(t.zt (zt3 (bA X L q))).zt z1, ?_, ?_, fun _ => ?_, fun c4 => ?_, fun c4 => ?_, fun _ => ⟨q, k, ?_, ?_, ?_, (by omega), (by omega), k4, ?_, ?_⟩, fun c4 => ?_, (by omega)⟩
        · simp [tokW, upd2, f4, b13]
        · simp [tokW, upd2, f3, z5, tkR]
        · simp [tokW, upd2, z4]
        · exact absurd c4 (by simp [tokW, upd2, f3])
        · exact absurd c4 (by simp [tokW, upd2, f3])
        · simp [tokW, upd2, f4]
        · simp [tokW, upd2]
        · simp [tokW, upd2]
        · simp [tokW, upd2]
        · simp [tokW, upd2]
        · exact absurd (by simp [tokW, upd2, f3]) c4
  · have bq : bA X L q = -1 := by unfold bA; rw [if_neg ql]
    rw [if_neg ql] at f3
    have e : tok1 X L T0 = T0 := by
      unfold tok1
      rw [f3, if_neg (by decide), if_neg (by decide), if_neg (by decide)]
    refine ⟨fun c => absurd bq c, fun _ => h _ ((zt3 _).u 12 _ (by omega) (by omega)) ?_⟩
    rw [e]
    refine ⟨t.zt ((zt3 _).u 12 _ (by omega) (by omega)), ?_, ?_, fun _ => ?_, fun c4 => ?_, fun c4 => ?_, fun c4 => ?_, fun _ => f8, ?_⟩
    · simp [upd2, f4]
    · simp [upd2, f3, tkR]
    · simp [upd2, e14, f2]
    · rw [f3] at c4; exact absurd c4 (by decide)
    · rw [f3] at c4; exact absurd c4 (by decide)
    · rw [f3] at c4; exact absurd c4 (by decide)
    · simp [upd2]; omega
theorem r_ahead {l : Launch} {E : EnvT} {d : Nat} {K : AV → Mem → Prop} {M : Mem} {Z T : Ch} {A : Nat → Int} {X : Nat → Int} {L : Nat} (hd : 3 ≤ d) (hX : XBn X) (L9 : L ≤ 900) (h1 : 0 ≤ T 0 2) (h2 : T 0 2 ≤ L) (e14 : Z 0 14 = T 0 2) (t : TX X L Z) (h : ∀ Z', ZT Z Z' → TZ X L (advT X L T) Z' → K (.null, 0) (zA M Z' A)) : CT l E d m_Mod_ahead [(.ref 24, 41)] (zA M Z A) K := by
  refine CT.of pn_Mod (Nat.le_of_ble_eq_true rfl) ?_
  unfold advT at h
  obtain ⟨p0, hp⟩ : ∃ p : Nat, T 0 2 = p := ⟨(T 0 2).toNat, (by omega)⟩
  rw [hp, show ((p0 : Int)).toNat = p0 from rfl] at h
  have key : ∀ (m p : Nat) (Z1 : Ch), p + m = L → Z1 0 14 = p → TX X L Z1 → ZT Z Z1 → skF X m p = skF X (L - p0) p0 → G l E d m_Mod_ahead 0 [(0, (.ref 24, 41))] [] (zA M Z1 A) K := by
    intro m
    induction m with
    | zero =>
      intro p Z1 e1 e2 t1 zt he
      have he : p = _ := he
      refine r_aheadQ (T := T) (q := p) (by omega) hX L9 (by omega) (by omega) (by omega) e2 t1 (fun Z' z1 z2 => h Z' (zt.tr z1) (by rw [← he]; exact z2))
    | succ m ih =>
      intro p Z1 e1 e2 t1 zt he
      have he : (if X p = 32 ∨ X p = 10 then skF X m (p + 1) else p) = _ := he
      by_cases c : X p = 32 ∨ X p = 10
      · rw [if_pos c] at he
        have br := bA_rng (X := X) (L := L) p
        have b32 := bA_i (p := p) hX L9 (v := 32) (by omega) (by omega)
        have b10 := bA_i (p := p) hX L9 (v := 10) (by omega) (by omega)
        have nx := ih (p + 1) (upd2 Z1 0 14 ((p : Int) + 1)) (by omega) (by rw [upd2_same]; push_cast; rfl) (t1.zt ((ZT.rf Z1).u 14 _ (by omega) (by omega))) (zt.u 14 _ (by omega) (by omega)) he
        refine b_Mod_ahead_0 (by omega) ?_
        rw [zA_0, e2]
        refine r_byteAt (by omega) t1 hX L9 (by omega) ?_
        rw [toI_int, iN_eq (by omega) (by omega) (by omega) (by omega), zA_0, e2, iN_add, iN_small (by omega) (by omega), zA_u0]
        refine ⟨fun _ => nx, fun c2 => ?_⟩
        refine r_byteAt (by omega) t1 hX L9 (by omega) ?_
        rw [toI_int, iN_eq (b := 10) (by omega) (by omega) (by omega) (by omega), zA_0, e2, iN_add, iN_small (z := (p : Int) + 1) (by omega) (by omega)]
        refine ⟨fun c3 => ?_, fun _ => by rw [zA_u0]; exact nx⟩
        exfalso
        omega
      · rw [if_neg c] at he
        refine r_aheadQ (T := T) (q := p) (by omega) hX L9 (by omega) (fun w => c (Or.inl w.2)) (fun w => c (Or.inr w.2)) e2 t1 (fun Z' z1 z2 => h Z' (zt.tr z1) (by rw [← he]; exact z2))
  exact key (L - p0) p0 Z (by omega) (by rw [e14]; exact hp) t (ZT.rf Z) rfl
