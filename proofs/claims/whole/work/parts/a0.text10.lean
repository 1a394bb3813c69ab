def sO4 (X : Nat → Int) (L : Nat) (T : Ch) (o : Bool × Ch) : PS := if o.1 = true then (true, advT X L T, o.2) else (false, rfT T 6, o.2)
def sO3 (X : Nat → Int) (L : Nat) (C : Ch) (a b : Int) (q : Bool × Ch) : PS := if q.1 = true then sO4 X L q.2 (oweC C a b.toNat (q.2 0 5)) else (false, q.2, C)
def sO2 (X : Nat → Int) (L : Nat) (C : Ch) (a : Int) (q : Int × Ch) : PS := if q.1 = -1 then (false, q.2, C) else sO3 X L C a q.1 (nuT (advT X L q.2) 1 99)
def sO1 (X : Nat → Int) (L : Nat) (C : Ch) (q : Int × Ch) : PS := if q.1 = -1 then (false, q.2, C) else sO2 X L C q.1 (sgT (advT X L q.2) C q.1)
def sO0 (X : Nat → Int) (L : Nat) (T C : Ch) : PS := sO1 X L C (sgT (advT X L T) C (-1))
theorem endS_tt (T C : Ch) : endS (true, T, C) = ((stSg T 59).1, (stSg T 59).2, C) := by
  unfold endS
  rw [if_pos rfl]
theorem rO0_end (X : Nat → Int) (L : Nat) (T C : Ch) : rO0 X L T C = endS (sO0 X L T C) := by
  unfold rO0 sO0 rO1 sO1
  by_cases c : (sgT (advT X L T) C (-1)).1 = -1
  · rw [if_pos c, if_pos c, endS_f]
  · rw [if_neg c, if_neg c]
    unfold rO2 sO2
    by_cases c2 : (sgT (advT X L (sgT (advT X L T) C (-1)).2) C (sgT (advT X L T) C (-1)).1).1 = -1
    · rw [if_pos c2, if_pos c2, endS_f]
    · rw [if_neg c2, if_neg c2]
      unfold rO3 sO3
      generalize nuT (advT X L (sgT (advT X L (sgT (advT X L T) C (-1)).2) C (sgT (advT X L T) C (-1)).1).2) 1 99 = q
      by_cases c3 : q.1 = true
      · rw [if_pos c3, if_pos c3]
        unfold rO4 sO4
        generalize oweC C (sgT (advT X L T) C (-1)).1 (sgT (advT X L (sgT (advT X L T) C (-1)).2) C (sgT (advT X L T) C (-1)).1).1.toNat (q.2 0 5) = o
        by_cases c4 : o.1 = true
        · rw [if_pos c4, if_pos c4, endS_tt]
        · rw [if_neg c4, if_neg c4, endS_f]
      · rw [if_neg c3, if_neg c3, endS_f]
theorem OKT.p {X : Nat → Int} {L : Nat} {p q : Int} {T Z : Ch} (ok : OKT X L p T Z) (h : q ≤ p) : OKT X L q T Z := ⟨ok.1, ok.2.1, ok.2.2.1, ok.2.2.2.1, by have := ok.2.2.2.2.1; omega, ok.2.2.2.2.2⟩
theorem FrW.n {A A' : Nat → Int} (h : FrW 2408 A A') : FrN A A' := fun j hj => h j (by omega) (by omega)
theorem r_aDebt {l : Launch} {E : EnvT} {d : Nat} {K : AV → Mem → Prop} {M : Mem} {X : Nat → Int} {L : Nat} {p : Int} {T C Z : Ch} {A : Nat → Int} (hd : 9 ≤ d) (hX : XBn X) (L9 : L ≤ 900) (ok : OKT X L p T Z) (k8 : T 0 8 ≠ -1) (hB : Z 0 21 = 2408) (pq : PQ C Z A) (hy : (sO0 X L T C).1 = true → ∀ (Z' : Ch) (A' : Nat → Int), ZP Z Z' → FrN A A' → OKT X L (T 0 4 + 1) (sO0 X L T C).2.1 Z' → PQ (sO0 X L T C).2.2 Z' A' → K (.int (iN 1), 0) (zA M Z' A')) (hn : (sO0 X L T C).1 = false → ∀ (Z' : Ch) (A' : Nat → Int), ZP Z Z' → FrN A A' → FZ (sO0 X L T C).2.1 Z' → K (.int (iN 0), 0) (zA M Z' A')) : CT l E d m_Mod_aDebt [(.ref 24, 41)] (zA M Z A) K := by
  refine CT.of pn_Mod (Nat.le_of_ble_eq_true rfl) ?_
  obtain ⟨hW, h12, hR, hU, hN⟩ := pq
  have hV := hW.1
  have n0 := hV.n
  have f0 : A 2408 = C 0 8 := hR.1.1
  unfold sO0 sO1 at hy hn
  refine b_Mod_aDebt_0 (by omega) (r_twoTo (by omega) hX L9 ok k8 hV f0 hN (fun a b T2 s1 s2 ha hb hab Z1 z1 ok1 => ?_) (fun T2 s1 Z1 A1 z1 f1 fz => ?_) (fun a T2 s1 s2 Z1 A1 z1 f1 fz => ?_))
  · rw [toI_int]
    refine ⟨fun _ => ?_, fun c => absurd c (by decide +kernel)⟩
    rw [s1] at hy hn
    dsimp only at hy hn
    rw [if_neg (by omega), s2] at hy hn
    unfold sO2 at hy hn
    dsimp only at hy hn
    rw [if_neg (by omega)] at hy hn
    unfold sO3 at hy hn
    generalize advT X L T2 = T3 at hy hn ok1
    rw [show ((b : Int)).toNat = b from rfl] at hy hn
    have a3 := ok1.2.1.2.2.2.1
    have a5 := ok1.2.1.2.2.2.2.2.1
    have tk := (tk_iff a3.1 a3.2).2.2.1
    have fA : FrN A (updP (updP A 3006 (a : Int)) 3007 (b : Int)) := fun j hj => by rw [updP_ne _ _ (by omega), updP_ne _ _ (by omega)]
    have R2 : RR C (updP (updP A 3006 (a : Int)) 3007 (b : Int)) 2408 := hR.fr hV (fun j j1 j2 => by rw [updP_ne _ _ (by omega), updP_ne _ _ (by omega)])
    have v6 : updP (updP A 3006 (a : Int)) 3007 (b : Int) 3006 = a := by rw [updP_ne _ _ (by omega), updP_same]
    have v7 : updP (updP A 3006 (a : Int)) 3007 (b : Int) 3007 = b := updP_same _ _ _
    have U2 : ∀ s : Nat, C 0 8 ≤ (s : Int) → s < 8 → ∀ j, (j = 2 ∨ j = 3 ∨ j = 4 ∨ j = 6) → updP (updP A 3006 (a : Int)) 3007 (b : Int) (2414 + 8 * s + j) = 0 := fun s q1 q2 j q3 => by
      rw [updP_ne _ _ (by omega), updP_ne _ _ (by omega)]; exact hU s q1 q2 j q3
    generalize updP (updP A 3006 (a : Int)) 3007 (b : Int) = A2 at fA R2 v6 v7 U2 ⊢
    have fin : (nuT T3 1 99).1 = false → CT l E (d - 1) m_Mod_number [(.ref 24, 41), (.int (iN 3008), 0), (.int (iN 1), 0), (.int (iN 99), 0)] (zA M Z1 A2) (fun v2 M2 => ((((toI v2) = 0 ∨ (toI v2) = 1)) ∧ K (.int (toI v2), 0) M2)) := by
      intro nf
      refine r_number (j := 3008) (by omega) hX L9 ok1 (by omega) (by omega) (by omega) (by omega) (by omega) (fun q => by rw [nf] at q; cases q) (fun q Z2 z2 f2 => ⟨z01, ?_⟩)
      rw [if_neg (by rw [nf]; decide)] at hn
      exact hn rfl Z2 A2 (z1.tr z2) fA f2
    rw [zA_0, ok1.1.2.2.1, tk]
    refine ⟨fun k => fin (by unfold nuT; rw [if_neg k]), fun k => ?_⟩
    rw [ok1.1.2.2.2.2.1 k]
    refine r_isFromI (lo := 1) (hi := 99) (by omega) (by omega) (by omega) (by omega) (by omega) (by omega) (by omega) ?_
    rw [toI_int, b2i_z, decide_eq_false_iff_not]
    refine ⟨fun q => fin (nuT_n k q), fun q => ?_⟩
    have q := Classical.not_not.mp q
    have ny : (nuT T3 1 99).1 = true := by unfold nuT; rw [if_pos k, if_pos q]
    rw [if_pos ny, (nuT_y ny).1] at hy hn
    unfold sO4 at hy hn
    rw [zA_1, zA_0, clA (z := 3006) (j := 3006) rfl (by omega), clA (z := 3007) (j := 3007) rfl (by omega), v6, v7, ok1.1.2.2.2.2.1 k]
    have b21 : Z1 0 21 = ((2408 : Nat) : Int) := by rw [z1 0 21 (by omega)]; exact hB
    refine ⟨inA (by omega) (by omega), inA (by omega) (by omega), c_booksW (b := b) (by omega) b21 (by omega) hV R2 (by omega) (by omega) hb (by omega) (by omega) (fun A3 R3 f3 => ?_)⟩
    rw [toI_int, b2i_z]
    have al : ∀ s : Nat, alv C s := fun s => by
      unfold alv
      rw [h12]
      exact Nat.zero_testBit s
    have W3' := WC_owe (a := (a : Int)) (b := b) (n := T3 0 5) hW (by omega) ha hb (by omega) (al _) (al _) (by omega) (by omega)
    refine ⟨fun c => ?_, fun c => r_fails (by omega) ok1 (by omega) (by omega) (fun Z2 z2 f2 => ⟨z01, ?_⟩)⟩
    · rw [Bool.not_eq_false] at c
      rw [if_pos c] at hy
      refine r_number (j := 3008) (by omega) hX L9 ok1 (by omega) (by omega) (by omega) (by omega) (by omega) (fun q5 Z2 z2 ok2 => ⟨o01, ?_⟩) (fun q5 => by rw [ny] at q5; cases q5)
      rw [(nuT_y ny).1] at ok2
      refine hy rfl Z2 _ (z1.tr z2) (fun j hj => by rw [updP_ne _ _ (by omega), f3.n j hj]; exact fA j hj) ok2 ⟨W3', ?_, R3.fr W3'.1 (fun j j1 j2 => updP_ne _ _ (by omega)), fun s q1 q2 j q3 => ?_, fun s hs => ?_⟩
      · show (oweC C a b (T3 0 5)).2 0 12 = 0
        rw [oweC_c (by decide)]; exact h12
      · have q1 : (oweC C a b (T3 0 5)).2 0 8 ≤ s := q1
        rw [oweC_c (by decide)] at q1
        rw [updP_ne _ _ (by omega), f3 _ (by omega) (by omega)]
        exact U2 s q1 q2 j q3
      · have hs : (s : Int) < (oweC C a b (T3 0 5)).2 0 8 := hs
        rw [oweC_c (by decide)] at hs
        show NMP ((oweC C a b (T3 0 5)).2 1 s) _
        rw [oweC_c (by decide), (z1.tr z2) 2 (32 + s) (by omega)]
        exact hN s hs
    · rw [if_neg (by rw [c]; decide)] at hn
      exact hn rfl Z2 A3 (z1.tr z2) (fA.tr f3.n) f2
  · rw [toI_int]
    refine ⟨fun c => absurd (by decide +kernel) c, fun _ => ⟨z01, ?_⟩⟩
    rw [s1] at hn
    exact hn rfl Z1 A1 z1 f1 fz
  · rw [toI_int]
    refine ⟨fun c => absurd (by decide +kernel) c, fun _ => ⟨z01, ?_⟩⟩
    rw [s1] at hn
    dsimp only at hn
    rw [if_neg (by omega), s2] at hn
    unfold sO2 at hn
    exact hn rfl Z1 A1 z1 f1 fz
theorem OKT.z20 {X : Nat → Int} {L : Nat} {p : Int} {T Z : Ch} {v : Int} (ok : OKT X L p T Z) : OKT X L p T (upd2 Z 0 20 v) := by
  obtain ⟨⟨⟨x1, x2⟩, t1, t2, t3, t4, t5, t6, t7, t8⟩, ti, z18, t10, gp⟩ := ok
  have e : ∀ k, k ≠ 20 → upd2 Z 0 20 v 0 k = Z 0 k := fun k hk => upd2_k _ _ hk
  have e7 : upd2 Z 0 20 v 7 = Z 7 := upd2_c _ _ (by decide)
  refine ⟨⟨⟨by rw [e 11 (by omega)]; exact x1, fun j hj => by rw [e7]; exact x2 j hj⟩, by rw [e 13 (by omega)]; exact t1, by rw [e 12 (by omega)]; exact t2, by rw [e 14 (by omega)]; exact t3, by rw [e 15 (by omega)]; exact t4, by rw [e 15 (by omega)]; exact t5, t6, t7, by rw [e 15 (by omega)]; exact t8⟩, ti, by rw [e 18 (by omega), e 17 (by omega)]; exact z18, t10, gp⟩
set_option maxHeartbeats 2000000 in
theorem r_choirPart {l : Launch} {E : EnvT} {d : Nat} {K : AV → Mem → Prop} {M : Mem} {X : Nat → Int} {L : Nat} {p : Int} {H T C Z : Ch} {A : Nat → Int} (hd : 10 ≤ d) (hX : XBn X) (L9 : L ≤ 900) (ok : OKT X L p T Z) (hB : Z 0 21 = 2408) (hH : Z 0 20 = H 0 1) (h01 : H 0 1 = 0 ∨ H 0 1 = 1) (pq : PQ C Z A) (hy : (rPart X L H T C).1 = true → ∀ (Z' : Ch) (A' : Nat → Int), ZC (upd2 Z 0 20 (rPA H T 0 1)) Z' → FrN A A' → OKT X L (T 0 4 + 1) (advT X L (rPart X L H T C).2.1) Z' → PQ (rPart X L H T C).2.2 Z' A' → K (.int (iN 1), 0) (zA M Z' A')) (hn : (rPart X L H T C).1 = false → ∀ (Z' : Ch) (A' : Nat → Int), ZC (upd2 Z 0 20 (rPA H T 0 1)) Z' → FrN A A' → FZ (rPart X L H T C).2.1 Z' → K (.int (iN 0), 0) (zA M Z' A')) : CT l E d m_Mod_choirPart [(.ref 24, 41)] (zA M Z A) K := by
  refine CT.of pn_Mod (Nat.le_of_ble_eq_true rfl) ?_
  have hW := pq.1
  have hV := hW.1
  have n0 := hV.n
  have a8 := ok.2.1.2.2.2.2.2.2.2.2.1
  have kr := kwR_rng a8.1 a8.2
  have e0 : iN (kwR (T 0 8)) = iN 0 ↔ T 0 8 = 0 := (iN_eq (by omega) (by omega) (by omega) (by omega)).trans (kwR_inj (y := 0) a8.1 a8.2 (by omega) (by omega))
  have e1 : iN (kwR (T 0 8)) = iN 1 ↔ T 0 8 = 6 := (iN_eq (by omega) (by omega) (by omega) (by omega)).trans (kwR_inj (y := 6) a8.1 a8.2 (by omega) (by omega))
  have e2 : iN (kwR (T 0 8)) = iN 2 ↔ T 0 8 = 7 := (iN_eq (by omega) (by omega) (by omega) (by omega)).trans (kwR_inj (y := 7) a8.1 a8.2 (by omega) (by omega))
  have e3 : iN (kwR (T 0 8)) = iN 3 ↔ T 0 8 = 8 := (iN_eq (by omega) (by omega) (by omega) (by omega)).trans (kwR_inj (y := 8) a8.1 a8.2 (by omega) (by omega))
  have fin : ∀ (q : PS) (Z1 : Ch) (A1 : Nat → Int), q.1 = true → rPart X L H T C = endS q → ZC (upd2 Z 0 20 (rPA H T 0 1)) Z1 → FrN A A1 → OKT X L (T 0 4 + 1) q.2.1 Z1 → PQ q.2.2 Z1 A1 → G l E d m_Mod_choirPart 136 [(0, (.ref 24, 41)), (1, (.int (iN 1), 0))] [] (zA M Z1 A1) K := by
    intro q Z1 A1 q1 q2 z1 f1 ok1 pq1
    obtain ⟨b, T1, C1⟩ := q
    have q1 : b = true := q1
    subst q1
    rw [q2, endS_tt] at hy hn
    refine b_Mod_choirPart_136 (by omega) ⟨fun c => absurd c (by decide +kernel), fun _ => r_wantSign (by omega) hX L9 ok1 (by omega) (by omega) (fun c Z2 z2 ok2 => ?_) (fun c Z2 z2 f2 => ?_)⟩
    · rw [toI_int]
      exact ⟨fun c => absurd c (by decide +kernel), fun _ => ⟨o01, hy c Z2 A1 (z1.tr z2.c) f1 ok2 (pq1.zp z2)⟩⟩
    · rw [toI_int]
      exact ⟨fun _ => ⟨z01, hn c Z2 A1 (z1.tr z2.c) f1 f2⟩, fun c => absurd (by decide +kernel) c⟩
  have bad : ∀ (q : PS) (Z1 : Ch) (A1 : Nat → Int), q.1 = false → rPart X L H T C = endS q → ZC (upd2 Z 0 20 (rPA H T 0 1)) Z1 → FrN A A1 → FZ q.2.1 Z1 → G l E d m_Mod_choirPart 136 [(0, (.ref 24, 41)), (1, (.int (iN 0), 0))] [] (zA M Z1 A1) K := by
    intro q Z1 A1 q1 q2 z1 f1 fz
    obtain ⟨b, T1, C1⟩ := q
    have q1 : b = false := q1
    subst q1
    rw [q2, endS_f] at hn
    exact b_Mod_choirPart_136 (by omega) ⟨fun _ => ⟨z01, hn rfl Z1 A1 z1 f1 fz⟩, fun c => absurd (by decide +kernel) c⟩
  refine b_Mod_choirPart_0 (by omega) (r_inWords (by omega) hX L9 ok.2.1 ok.1 ?_)
  rw [toI_int, e0, e1, e2, e3]
  have same : T 0 8 ≠ 8 → upd2 Z 0 20 (rPA H T 0 1) = Z := by
    intro k
    unfold rPA
    rw [if_neg (fun q => k q.1), ← hH]
    exact upd2_id _ _ _
  refine ⟨fun k => ?_, fun k0 => ⟨fun k => ?_, fun k6 => ⟨fun k => ?_, fun k7 => ⟨fun k => ?_, fun k9 => ?_⟩⟩⟩⟩
  · have er : rPart X L H T C = endS (sS0 X L T C) := by
      unfold rPart
      rw [if_pos k, rS0_end]
    rw [same (by omega)] at fin bad
    exact r_aSinger (by omega) hX L9 ok (by omega) pq (fun q Z1 A1 z1 f1 ok1 pq1 => fin _ Z1 A1 q er z1 f1 ok1 pq1) (fun q Z1 A1 z1 f1 fz => bad _ Z1 A1 q er z1 f1 fz)
  · have er : rPart X L H T C = endS (sO0 X L T C) := by
      unfold rPart
      rw [if_neg k0, if_pos k, rO0_end]
    rw [same (by omega)] at fin bad
    exact r_aDebt (by omega) hX L9 ok (by omega) hB pq (fun q Z1 A1 z1 f1 ok1 pq1 => fin _ Z1 A1 q er z1.c f1 ok1 pq1) (fun q Z1 A1 z1 f1 fz => bad _ Z1 A1 q er z1.c f1 fz)
  · have er : rPart X L H T C = rH0 X L T C := by
      unfold rPart
      rw [if_neg k0, if_neg k6, if_pos k]
    rw [same (by omega)] at fin bad
    have f0 : A 2408 = C 0 8 := pq.2.2.1.1.1
    unfold rH0 rH1 at er
    refine r_twoTo (by omega) hX L9 ok (by omega) hV f0 pq.2.2.2.2 (fun a b T2 s1 s2 ha hb hab Z1 z1 ok1 => ?_) (fun T2 s1 Z1 A1 z1 f1 fz => ?_) (fun a T2 s1 s2 Z1 A1 z1 f1 fz => ?_)
    · rw [s1] at er
      dsimp only at er
      rw [if_neg (by omega), s2] at er
      unfold rH2 at er
      dsimp only at er
      rw [if_neg (by omega), show ((a : Int)).toNat = a from rfl] at er
      have v6 : updP (updP A 3006 (a : Int)) 3007 (b : Int) 3006 = a := by rw [updP_ne _ _ (by omega), updP_same]
      have v7 : updP (updP A 3006 (a : Int)) 3007 (b : Int) 3007 = b := updP_same _ _ _
      rw [toI_int]
      refine ⟨fun c => absurd c (by decide +kernel), fun _ => ⟨inA (by omega) (by omega), ?_⟩⟩
      rw [zA_1, clA (z := 3006) (j := 3006) rfl (by omega), v6]
      refine c_singerRow (by omega) ?_
      rw [toI_int, iN_add, iN_add, zA_1, clA (z := 3007) (j := 3007) rfl (by omega), v7, clA (z := 2408 + (6 + 8 * (a : Int)) + 5) (j := 2408 + 6 + 8 * a + 5) (by omega) (by omega), iN_small (by omega) (by omega), zA_u]
      refine ⟨inA (by omega) (by omega), inA (by omega) (by omega), ?_⟩
      have W3' := WC_3 (s := a) (v := (b : Int)) hW (by omega) (Or.inl hb) (by omega)
      have R2 : RR C (updP (updP A 3006 (a : Int)) 3007 (b : Int)) 2408 := pq.2.2.1.fr hV (fun j j1 j2 => by rw [updP_ne _ _ (by omega), updP_ne _ _ (by omega)])
      refine fin (true, advT X L T2, upd2 C 3 a b) Z1 _ rfl (by rw [er, endS_tt]) z1.c (fun j hj => by rw [updP_ne _ _ (by omega), updP_ne _ _ (by omega), updP_ne _ _ (by omega)]) ok1 ⟨W3', ?_, RR_3 hV R2 (by omega), fun s q1 q2 j q3 => ?_, fun s hs => ?_⟩
      · show upd2 C 3 a b 0 12 = 0
        rw [upd2_c _ _ (by decide)]; exact pq.2.1
      · have q1 : upd2 C 3 a b 0 8 ≤ s := q1
        rw [upd2_c _ _ (by decide)] at q1
        rw [updP_ne _ _ (by omega), updP_ne _ _ (by omega), updP_ne _ _ (by omega)]
        exact pq.2.2.2.1 s q1 q2 j q3
      · have hs : (s : Int) < upd2 C 3 a b 0 8 := hs
        rw [upd2_c _ _ (by decide)] at hs
        show NMP (upd2 C 3 a b 1 s) _
        rw [upd2_c _ _ (by decide), z1 2 (32 + s) (by omega)]
        exact pq.2.2.2.2 s hs
    · rw [s1] at er
      dsimp only at er
      rw [if_pos rfl] at er
      rw [toI_int]
      exact ⟨fun _ => bad (false, T2, C) Z1 A1 rfl (by rw [er, endS_f]) z1.c f1 fz, fun c => absurd (by decide +kernel) c⟩
    · rw [s1] at er
      dsimp only at er
      rw [if_neg (by omega), s2] at er
      unfold rH2 at er
      dsimp only at er
      rw [if_pos rfl] at er
      rw [toI_int]
      exact ⟨fun _ => bad (false, T2, C) Z1 A1 rfl (by rw [er, endS_f]) z1.c f1 fz, fun c => absurd (by decide +kernel) c⟩
  · have er : rPart X L H T C = rU0 X L H T C := by
      unfold rPart
      rw [if_neg k0, if_neg k6, if_neg k7, if_pos k]
    rw [zA_0, hH, iN_le0 (by omega) (by omega), iN_1I, zA_u0]
    unfold rU0 at er
    refine ⟨fun c => ?_, fun c => ?_⟩
    · rw [if_pos (by omega)] at er
      have eA : rPA H T 0 1 = 1 := by
        unfold rPA
        rw [if_pos ⟨k, by omega⟩, upd2_same]
      rw [eA] at fin bad
      have okz : OKT X L p T (upd2 Z 0 20 1) := ok.z20
      refine r_next1 (by omega) hX L9 okz (by omega) (fun Z1 z1 ok1 => ?_)
      unfold rU1 at er
      refine r_number (j := 2409) (by omega) hX L9 ok1 (by omega) (by omega) (by omega) (by omega) (by omega) (fun q Z2 z2 ok2 => ?_) (fun q Z2 z2 f2 => ?_)
      · have nu := nuT_y q
        rw [if_pos q, nu.1] at er
        rw [nu.1] at ok2
        have V3 : VB (upd2 C 0 13 (advT X L T 0 5)) := VB_f13 hV nu.2.2.1 nu.2.2.2
        rw [toI_int]
        refine fin (true, advT X L (advT X L T), upd2 C 0 13 (advT X L T 0 5)) Z2 _ rfl (by rw [er, endS_tt]) (z1.tr z2).c (fun j hj => updP_ne _ _ (by omega)) ok2 ⟨WC_f hW (by omega) V3, ?_, ?_, fun s q1 q2 j q3 => ?_, fun s hs => ?_⟩
        · show upd2 C 0 13 (advT X L T 0 5) 0 12 = 0
          rw [upd2_k _ _ (by decide)]; exact pq.2.1
        · exact RR_f (j := 13) hV pq.2.2.1 (by omega) (by omega)
        · have q1 : upd2 C 0 13 (advT X L T 0 5) 0 8 ≤ s := q1
          rw [upd2_k _ _ (by decide)] at q1
          rw [updP_ne _ _ (by omega)]
          exact pq.2.2.2.1 s q1 q2 j q3
        · have hs : (s : Int) < upd2 C 0 13 (advT X L T 0 5) 0 8 := hs
          rw [upd2_k _ _ (by decide)] at hs
          show NMP (upd2 C 0 13 (advT X L T 0 5) 1 s) _
          rw [upd2_c _ _ (by decide), (z1.tr z2) 2 (32 + s) (by omega), upd2_c _ _ (by decide)]
          exact pq.2.2.2.2 s hs
      · rw [if_neg (by rw [q]; decide)] at er
        rw [toI_int]
        exact bad (false, (nuT (advT X L T) 0 50).2, C) Z2 A rfl (by rw [er, endS_f]) (z1.tr z2).c (FrN.rf _) f2
    · rw [if_neg (by omega)] at er
      have eA : rPA H T 0 1 = H 0 1 := by
        unfold rPA
        rw [if_neg (fun q => by omega)]
      rw [eA, ← hH, upd2_id] at hn
      rw [er] at hn
      exact r_fails (by omega) ok (by omega) (by omega) (fun Z1 z1 f1 => ⟨z01, hn rfl Z1 A z1.c (FrN.rf _) f1⟩)
  · have er : rPart X L H T C = (false, rfT T 2, C) := by
      unfold rPart
      rw [if_neg k0, if_neg k6, if_neg k7, if_neg k9]
    rw [er, same (by omega)] at hn
    exact r_fails (by omega) ok (by omega) (by omega) (fun Z1 z1 f1 => ⟨z01, hn rfl Z1 A z1.c (FrN.rf _) f1⟩)
