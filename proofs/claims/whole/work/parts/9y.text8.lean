def sS4 (X : Nat → Int) (L s : Nat) (q : PS) : PS := if q.1 = true then (if q.2.1 0 8 = 5 then rLine X L s q.2.1 q.2.2 else q) else (false, q.2.1, q.2.2)
def sS3 (X : Nat → Int) (L : Nat) (C : Ch) (w : Int) (q : Bool × Ch) : PS := if q.1 = true then sS4 X L (C 0 8).toNat (rVo X L (C 0 8).toNat 4 (advT X L q.2) (addSingerC C w (q.2 0 5))) else (false, q.2, C)
def sS2 (X : Nat → Int) (L : Nat) (C : Ch) (w : Int) (q : Bool × Ch) : PS := if q.1 = true then sS3 X L C w (nuT (advT X L q.2) 0 999) else (false, q.2, C)
def sS1 (X : Nat → Int) (L : Nat) (C : Ch) (q : Bool × Ch) : PS := if q.1 = true then (if findC C (lI (q.2 0 9)) = -1 then sS2 X L C (q.2 0 9) (kwT (advT X L q.2) 1) else (false, rfT q.2 3, C)) else (false, q.2, C)
def sS0 (X : Nat → Int) (L : Nat) (T C : Ch) : PS := if C 0 8 < 8 then sS1 X L C (nmT (advT X L T)) else (false, rfT T 6, C)
theorem endS_f (T C : Ch) : endS (false, T, C) = (false, T, C) := by
  unfold endS
  rw [if_neg (by simp)]
theorem rS4_end (X : Nat → Int) (L s : Nat) (q : PS) : rS4 X L s q = endS (sS4 X L s q) := by
  unfold rS4 sS4
  by_cases c : q.1 = true
  · rw [if_pos c, if_pos c]
    by_cases c2 : q.2.1 0 8 = 5
    · rw [if_pos c2, if_pos c2]
    · rw [if_neg c2, if_neg c2]
  · rw [if_neg c, if_neg c, endS_f]
theorem rS3_end (X : Nat → Int) (L : Nat) (C : Ch) (w : Int) (q : Bool × Ch) : rS3 X L C w q = endS (sS3 X L C w q) := by
  unfold rS3 sS3
  by_cases c : q.1 = true
  · rw [if_pos c, if_pos c, rS4_end]
  · rw [if_neg c, if_neg c, endS_f]
theorem rS2_end (X : Nat → Int) (L : Nat) (C : Ch) (w : Int) (q : Bool × Ch) : rS2 X L C w q = endS (sS2 X L C w q) := by
  unfold rS2 sS2
  by_cases c : q.1 = true
  · rw [if_pos c, if_pos c, rS3_end]
  · rw [if_neg c, if_neg c, endS_f]
theorem rS1_end (X : Nat → Int) (L : Nat) (C : Ch) (q : Bool × Ch) : rS1 X L C q = endS (sS1 X L C q) := by
  unfold rS1 sS1
  by_cases c : q.1 = true
  · rw [if_pos c, if_pos c]
    by_cases c2 : findC C (lI (q.2 0 9)) = -1
    · rw [if_pos c2, if_pos c2, rS2_end]
    · rw [if_neg c2, if_neg c2, endS_f]
  · rw [if_neg c, if_neg c, endS_f]
theorem rS0_end (X : Nat → Int) (L : Nat) (T C : Ch) : rS0 X L T C = endS (sS0 X L T C) := by
  unfold rS0 sS0
  by_cases c : C 0 8 < 8
  · rw [if_pos c, if_pos c, rS1_end]
  · rw [if_neg c, if_neg c, endS_f]
/-- the choir's text: what else may change in the reference -/
def ZC (Z Z' : Ch) : Prop := ∀ c k, ¬ (c = 0 ∧ ((12 ≤ k ∧ k ≤ 15) ∨ k = 17 ∨ k = 18)) → ¬ (c = 2 ∧ 32 ≤ k ∧ k < 40) → Z' c k = Z c k
theorem ZC.rf (Z : Ch) : ZC Z Z := fun _ _ _ _ => rfl
theorem ZC.tr {Z Z' Z'' : Ch} (h : ZC Z Z') (h' : ZC Z' Z'') : ZC Z Z'' := fun c k q r => by rw [h' c k q r, h c k q r]
theorem ZP.c {Z Z' : Ch} (h : ZP Z Z') : ZC Z Z' := fun c k q _ => h c k (by omega)
def FrN (A A' : Nat → Int) : Prop := ∀ j, (j < 2408 ∨ j = 2412) → A' j = A j
theorem FrN.rf (A : Nat → Int) : FrN A A := fun _ _ => rfl
theorem FrN.tr {A A' A'' : Nat → Int} (h : FrN A A') (h' : FrN A' A'') : FrN A A'' := fun j q => by rw [h' j q, h j q]
theorem FrL.n {n : Nat} {A A' : Nat → Int} (h : FrL n A A') : FrN A A' := fun j q => h j (by omega) (by omega) (by omega)
/-- singers that aren't there yet have no voices -/
def UZ (C : Ch) (A : Nat → Int) : Prop := ∀ s : Nat, C 0 8 ≤ (s : Int) → s < 8 → ∀ j, (j = 2 ∨ j = 3 ∨ j = 4 ∨ j = 6) → A (2414 + 8 * s + j) = 0
theorem OKT.z2 {X : Nat → Int} {L : Nat} {p : Int} {T Z : Ch} {k : Nat} {v : Int} (ok : OKT X L p T Z) : OKT X L p T (upd2 Z 2 k v) := by
  obtain ⟨⟨⟨x1, x2⟩, t⟩, ti, z18, t10, gp⟩ := ok
  have e0 : upd2 Z 2 k v 0 = Z 0 := upd2_c _ _ (by decide)
  have e7 : upd2 Z 2 k v 7 = Z 7 := upd2_c _ _ (by decide)
  refine ⟨⟨⟨by rw [e0]; exact x1, fun j hj => by rw [e7]; exact x2 j hj⟩, ?_⟩, ti, by rw [e0]; exact z18, t10, gp⟩
  rw [e0]
  exact t
theorem kw_vo {x : Int} (h1 : -1 ≤ x) (h2 : x ≤ 21) : ((5 ≤ kwR x ∧ kwR x ≤ 7) ↔ (x = 2 ∨ x = 3 ∨ x = 4)) ∧ ((x = 2 ∨ x = 3 ∨ x = 4) → kwR x = x + 3) := by
  have : ∀ a : Nat, a < 23 → ((5 ≤ kwR ((a : Int) - 1) ∧ kwR ((a : Int) - 1) ≤ 7) ↔ ((a : Int) - 1 = 2 ∨ (a : Int) - 1 = 3 ∨ (a : Int) - 1 = 4)) ∧ (((a : Int) - 1 = 2 ∨ (a : Int) - 1 = 3 ∨ (a : Int) - 1 = 4) → kwR ((a : Int) - 1) = (a : Int) - 1 + 3) := by decide +kernel
  have := this (x + 1).toNat (by omega)
  rw [show (((x + 1).toNat : Nat) : Int) - 1 = x by omega] at this
  exact this
def cntV (C : Ch) (s : Nat) : Int := b2i (inS (C 0 9) s) + b2i (inS (C 0 10) s) + b2i (inS (C 0 11) s)
theorem cntV_hi (C : Ch) (s : Nat) : cntV C s ≤ 3 := by
  have a := b2i_hi (inS (C 0 9) s)
  have b := b2i_hi (inS (C 0 10) s)
  have c := b2i_hi (inS (C 0 11) s)
  unfold cntV
  omega
/-- a singer of line n is being read: what class and reference keep -/
def SI (n : Nat) (C : Ch) : Prop := WC C ∧ C 0 8 = (n : Int) + 1 ∧ (∀ i, i < 48 → i / 6 = n → C 6 i = -1) ∧ C 0 12 = 0
theorem rLi_keep {X : Nat → Int} {L n : Nat} (n8 : n < 8) : ∀ (m t : Nat) (T C : Ch), VB C → C 4 n = t → t + m = 7 → (∀ c, c ≠ 4 → c ≠ 5 → (rLi X L n m t T C).2.2 c = C c) ∧ (∀ j, j ≠ n → (rLi X L n m t T C).2.2 4 j = C 4 j) ∧ ((rLi X L n m t T C).1 = true → t ≤ 6 → VB (rLi X L n m t T C).2.2 ∧ (1 ≤ (rLi X L n m t T C).2.2 4 n)) := by
  intro m
  induction m with
  | zero =>
    intro t T C hV h4 h7
    exact ⟨fun _ _ _ => rfl, fun _ _ => rfl, fun _ h => absurd h (by omega)⟩
  | succ m ih =>
    intro t T C hV h4 h7
    have he : rLi X L n (m + 1) t T C = if 0 < t ∧ T 0 3 ≠ 2 then (true, T, C) else if (nuT T 0 24).1 = true then (if t = 6 then (false, rfT T 6, C) else rLi X L n m (t + 1) (advT X L T) (addNoteC C n (T 0 5))) else (false, (nuT T 0 24).2, C) := rfl
    rw [he]
    by_cases c : 0 < t ∧ T 0 3 ≠ 2
    · rw [if_pos c]
      exact ⟨fun _ _ _ => rfl, fun _ _ => rfl, fun _ _ => ⟨hV, by show 1 ≤ C 4 n; omega⟩⟩
    · rw [if_neg c]
      by_cases c2 : (nuT T 0 24).1 = true
      · rw [if_pos c2]
        by_cases c3 : t = 6
        · rw [if_pos c3]
          exact ⟨fun _ _ _ => rfl, fun _ _ => rfl, fun h => by cases h⟩
        · rw [if_neg c3]
          have ny := nuT_y c2
          by_cases c4 : t < 6
          · obtain ⟨i1, i2, i3⟩ := ih (t + 1) (advT X L T) (addNoteC C n (T 0 5)) (VB_addNote hV n8 (by rw [h4]; omega) ny.2.2.1 ny.2.2.2) (by rw [addNoteC_4, h4]; push_cast; rfl) (by omega)
            refine ⟨fun c a b => by rw [i1 c a b, addNoteC_c a b], fun j hj => by rw [i2 j hj, addNt_4, if_neg hj], fun h _ => i3 h (by omega)⟩
          · have m0 : m = 0 := (by omega)
            subst m0
            omega
      · rw [if_neg c2]
        exact ⟨fun _ _ _ => rfl, fun _ _ => rfl, fun h => by cases h⟩
theorem r_aSv {l : Launch} {E : EnvT} {d : Nat} {K : AV → Mem → Prop} {M : Mem} {X : Nat → Int} {L n : Nat} {p : Int} (hd : 7 ≤ d) (hX : XBn X) (L9 : L ≤ 900) (n8 : n < 8) : ∀ (m : Nat) (T C Z : Ch) (A : Nat → Int), cntV C n + m = 4 → OKT X L p T Z → SI n C → C 4 n = 3 → A 2408 = n → RR C (finA A 2408 n) 2408 → ((sS4 X L n (rVo X L n m T C)).1 = true → ∀ (Z' : Ch) (A' : Nat → Int), ZP Z Z' → FrN A A' → (∀ s j, n < s → s < 8 → j < 8 → A' (2414 + 8 * s + j) = A (2414 + 8 * s + j)) → OKT X L p (sS4 X L n (rVo X L n m T C)).2.1 Z' → RR (sS4 X L n (rVo X L n m T C)).2.2 A' 2408 → SI n (sS4 X L n (rVo X L n m T C)).2.2 → (sS4 X L n (rVo X L n m T C)).2.2 1 = C 1 → K (.int (iN 1), 0) (zA M Z' A')) → ((sS4 X L n (rVo X L n m T C)).1 = false → ∀ (Z' : Ch) (A' : Nat → Int), ZP Z Z' → FrN A A' → FZ (sS4 X L n (rVo X L n m T C)).2.1 Z' → K (.int (iN 0), 0) (zA M Z' A')) → G l E d m_Mod_aSinger 108 [(0, (.ref 24, 41)), (1, (.int (iN (n : Int)), 0)), (2, (.int (iN ((2414 + 8 * n : Nat) : Int)), 0))] [] (zA M Z A) K := by
  intro m
  induction m with
  | zero =>
    intro T C Z A hm
    have := cntV_hi C n
    omega
  | succ m ih =>
    intro T C Z A hm ok hS h43 hA hR hy hn
    have hS2 := hS
    obtain ⟨hW, h8, hF, h12⟩ := hS2
    have hV := hW.1
    have a8 := ok.2.1.2.2.2.2.2.2.2.2.1
    have kr := kwR_rng a8.1 a8.2
    have kv := kw_vo a8.1 a8.2
    have he : rVo X L n (m + 1) T C = if isVo (T 0 8) = true then (if (adVo C (T 0 8) n).1 = true then rVo X L n m (advT X L T) (adVo C (T 0 8) n).2 else (false, rfT T 5, (adVo C (T 0 8) n).2)) else (true, T, C) := rfl
    rw [he] at hy hn
    have rest : ¬ (T 0 8 = 2 ∨ T 0 8 = 3 ∨ T 0 8 = 4) → (vp_in (iN ((2414 + 8 * n : Nat) : Int) + iN 5) 3612 ∧ vp_in (iN ((2414 + 8 * n : Nat) : Int) + iN 1) 3612 ∧ G l E d m_Mod_aSinger 192 [(0, (.ref 24, 41)), (1, (.int (iN (n : Int)), 0)), (3, (.int (iN 0), 0))] [] (upd3 (upd3 (zA M Z A) 24 1 (iN ((2414 + 8 * n : Nat) : Int) + iN 5).toNatClampNeg (iN (-1)).toInt) 24 1 (iN ((2414 + 8 * n : Nat) : Int) + iN 1).toNatClampNeg (iN 3).toInt) K) := by
      intro nv
      rw [if_neg (by unfold isVo; simpa using nv)] at hy hn
      have e4 : sS4 X L n (true, T, C) = if T 0 8 = 5 then rLine X L n T C else (true, T, C) := by
        unfold sS4
        rw [if_pos rfl]
      rw [e4] at hy hn
      rw [iN_add, iN_add, clA (z := ((2414 + 8 * n : Nat) : Int) + 5) (j := 2408 + 6 + 8 * n + 5) (by omega) (by omega), clA (z := ((2414 + 8 * n : Nat) : Int) + 1) (j := 2408 + 6 + 8 * n + 1) (by omega) (by omega), iN_m1I, iN_small (z := 3) (by omega) (by omega), zA_u, zA_u]
      refine ⟨inA (by omega) (by omega), inA (by omega) (by omega), ?_⟩
      have note : ∀ (j : Nat) (A2 : Nat → Int), j < 3 → G l E d m_Mod_aSinger 192 [(0, (.ref 24, 41)), (1, (.int (iN (n : Int)), 0)), (3, (.int (iN ((j + 1 : Nat) : Int)), 0))] [] (zA M Z (updP A2 (2408 + 70 + 6 * n + j) (12 + 2 * (j : Int)))) K → G l E d m_Mod_aSinger 192 [(0, (.ref 24, 41)), (1, (.int (iN (n : Int)), 0)), (3, (.int (iN (j : Int)), 0))] [] (zA M Z A2) K := by
        intro j A2 hj g
        refine b_Mod_aSinger_192 (by omega) ⟨fun c => absurd ((iN_le (by omega) (by omega) (by omega) (by omega)).mp c) (by omega), fun _ => ?_⟩
        rw [iN_mul, iN_mul, iN_add, iN_add, iN_add, iN_add, clA (z := 2478 + 6 * (n : Int) + (j : Int)) (j := 2408 + 70 + 6 * n + j) (by omega) (by omega), iN_small (by omega) (by omega), zA_u]
        exact ⟨inA (by omega) (by omega), g⟩
      refine note 0 _ (by omega) (note 1 _ (by omega) (note 2 _ (by omega) ?_))
      have fA : ∀ A2 : Nat → Int, A2 = updP (updP (updP (updP (updP A (2408 + 6 + 8 * n + 5) (-1)) (2408 + 6 + 8 * n + 1) 3) (2408 + 70 + 6 * n + 0) (12 + 2 * ((0 : Nat) : Int))) (2408 + 70 + 6 * n + 1) (12 + 2 * ((1 : Nat) : Int))) (2408 + 70 + 6 * n + 2) (12 + 2 * ((2 : Nat) : Int)) → updP A2 2408 ((n : Int) + 1) = finA A 2408 n ∧ A2 2408 = n ∧ FrN A A2 ∧ (∀ s j, n < s → s < 8 → j < 8 → A2 (2414 + 8 * s + j) = A (2414 + 8 * s + j)) := by
        intro A2 e
        subst e
        refine ⟨rfl, ?_, fun j hj => ?_, fun s j h1 h2 h3 => ?_⟩
        · rw [updP_ne _ _ (by omega), updP_ne _ _ (by omega), updP_ne _ _ (by omega), updP_ne _ _ (by omega), updP_ne _ _ (by omega)]; exact hA
        · rw [updP_ne _ _ (by omega), updP_ne _ _ (by omega), updP_ne _ _ (by omega), updP_ne _ _ (by omega), updP_ne _ _ (by omega)]
        · rw [updP_ne _ _ (by omega), updP_ne _ _ (by omega), updP_ne _ _ (by omega), updP_ne _ _ (by omega), updP_ne _ _ (by omega)]
      have fA := fA _ rfl
      generalize updP (updP (updP (updP (updP A (2408 + 6 + 8 * n + 5) (-1)) (2408 + 6 + 8 * n + 1) 3) (2408 + 70 + 6 * n + 0) (12 + 2 * ((0 : Nat) : Int))) (2408 + 70 + 6 * n + 1) (12 + 2 * ((1 : Nat) : Int))) (2408 + 70 + 6 * n + 2) (12 + 2 * ((2 : Nat) : Int)) = A2 at fA ⊢
      obtain ⟨fa1, fa2, fa3, fa4⟩ := fA
      refine b_Mod_aSinger_192 (by omega) ⟨fun _ => ?_, fun c => absurd ((iN_le (by omega) (by omega) (by omega) (by omega)).mpr (by omega)) c⟩
      refine r_isThere (k := 5) (by omega) hX L9 ok (by omega) (by omega) (fun k5 Z2 z1 z2 => ?_) (fun k5 => ?_)
      · rw [if_pos k5] at hy hn
        rw [toI_int]
        refine ⟨fun c => absurd c (by decide +kernel), fun _ => ?_⟩
        have g0 : CT l E (d - 1) m_Mod_aLine [(.ref 24, 41), (.int (iN (n : Int)), 0)] (zA M Z2 A2) (fun v2 M2 => ((¬ (toI v2) = 0 → (vp_in (iN 2408) 3612 ∧ vp_in (iN 2408) 3612 ∧ (((iN 1) = 0 ∨ (iN 1) = 1)) ∧ K (.int (iN 1), 0) (upd3 M2 24 1 ((iN 2408)).toNatClampNeg (((iN (M2 24 1 ((iN 2408)).toNatClampNeg)) + (iN 1))).toInt))) ∧ ((toI v2) = 0 → ((((iN 0) = 0 ∨ (iN 0) = 1)) ∧ K (.int (iN 0), 0) M2)))) := by
          refine CT.of pn_Mod (Nat.le_of_ble_eq_true rfl) ?_
          have v0 : VB (upd2 C 4 n 0) := VB_4 hV (by omega) (by omega)
          have keep := rLi_keep (X := X) (L := L) n8 7 0 (advT X L T) (upd2 C 4 n 0) v0 (upd2_same _ _ _ _) (by omega)
          unfold rLine at hy hn
          refine b_Mod_aLine_0 (by omega) (r_aLineL (by omega) hX L9 n8 7 0 (advT X L T) (upd2 C 4 n 0) Z2 A2 (by omega) (by omega) z2 v0 (by rw [upd2_c _ _ (by decide)]; exact h8) (upd2_same _ _ _ _) ?_ (fun q Z3 A3 y1 y2 y3 y4 => ?_) (fun q Z3 A3 y1 y2 y3 => ?_))
          · have := RR_len (n := n) hV hR n8
            rw [← fa1] at this
            exact this
          · have b1 : A3 2408 = n := by rw [y2 _ (by omega) (by omega) (by omega)]; exact fa2
            rw [toI_int]
            refine ⟨fun _ => ⟨inA (by omega) (by omega), inA (by omega) (by omega), o01, ?_⟩, fun c => absurd c (by decide +kernel)⟩
            rw [zA_1, clA (z := 2408) (j := 2408) rfl (by omega), b1, iN_add, iN_small (by omega) (by omega), zA_u]
            have kk := keep.2.2 q (by omega)
            refine hy q Z3 _ (z1.tr y1) (fun j hj => by rw [updP_ne _ _ (by omega), y2 j (by omega) (by omega) (by omega)]; exact fa3 j hj) (fun s j s1 s2 s3 => by rw [updP_ne _ _ (by omega), y2 _ (by omega) (by omega) (by omega)]; exact fa4 s j s1 s2 s3) y3 y4 ⟨?_, ?_, ?_, ?_⟩ ?_
            · refine WC_line (n := n) hW kk.1 (fun c a b => by rw [keep.1 c a b, upd2_c _ _ a]) (fun j hj => by rw [keep.2.1 j hj, upd2_k _ _ hj]) kk.2 hF
            · rw [keep.1 0 (by decide) (by decide), upd2_c _ _ (by decide)]; exact h8
            · rw [keep.1 6 (by decide) (by decide), upd2_c _ _ (by decide)]; exact hF
            · rw [keep.1 0 (by decide) (by decide), upd2_c _ _ (by decide)]; exact h12
            · rw [keep.1 1 (by decide) (by decide), upd2_c _ _ (by decide)]
          · rw [toI_int]
            exact ⟨fun c => absurd (by decide +kernel) c, fun _ => ⟨z01, hn q Z3 A3 (z1.tr y1) (fa3.tr y2.n) y3⟩⟩
        exact g0
      · rw [if_neg k5] at hy hn
        rw [toI_int]
        refine ⟨fun _ => ⟨inA (by omega) (by omega), inA (by omega) (by omega), o01, ?_⟩, fun c => absurd (by decide +kernel) c⟩
        rw [zA_1, clA (z := 2408) (j := 2408) rfl (by omega), fa2, iN_add, iN_small (by omega) (by omega), zA_u, fa1]
        refine hy rfl Z _ (ZP.rf _) (fun j hj => ?_) (fun s j s1 s2 s3 => ?_) ok hR hS rfl
        · rw [← fa1, updP_ne _ _ (by omega)]; exact fa3 j hj
        · rw [← fa1, updP_ne _ _ (by omega)]; exact fa4 s j s1 s2 s3
    refine b_Mod_aSinger_108 (by omega) (r_inWords (by omega) hX L9 ok.2.1 ok.1 ?_)
    rw [toI_int, iN_lt (by omega) (by omega) (by omega) (by omega)]
    refine ⟨fun c => rest (fun q => by have := kv.1.mpr q; omega), fun c => r_inWords (by omega) hX L9 ok.2.1 ok.1 ?_⟩
    rw [toI_int, iN_lt (by omega) (by omega) (by omega) (by omega)]
    refine ⟨fun c2 => rest (fun q => by have := kv.1.mpr q; omega), fun c2 => r_inWords (by omega) hX L9 ok.2.1 ok.1 ?_⟩
    have vo := kv.1.mp ⟨by omega, by omega⟩
    have ek := kv.2 vo
    obtain ⟨k, hk⟩ : ∃ k : Nat, T 0 8 = k := ⟨(T 0 8).toNat, (by omega)⟩
    rw [if_pos (by unfold isVo; simpa using vo)] at hy hn
    rw [toI_int, ek, iN_add, iN_add, iN_sub, show ((2414 + 8 * n : Nat) : Int) + 2 + (T 0 8 + 3) - 5 = ((2414 + 8 * n + k : Nat) : Int) by omega, clA (z := ((2414 + 8 * n + k : Nat) : Int)) (j := 2414 + 8 * n + k) rfl (by omega), zA_1]
    have fk : finA A 2408 n (2414 + 8 * n + k) = A (2414 + 8 * n + k) := by
      rw [finA_at, if_neg (by omega), if_neg (by omega), if_neg (by omega), if_neg (by omega), if_neg (by omega), if_neg (by omega)]
    have rs := hR.2.1 n (by rw [h8]; omega)
    have hv : A (2414 + 8 * n + k) = b2i (inS (C 0 (voF (T 0 8))) n) := by
      rw [← fk]
      obtain ⟨g0, g1, g2, g3, g4, g5, g6⟩ := rs
      rcases vo with e | e | e
      · have k2 : k = 2 := (by omega)
        subst k2
        rw [e]; exact g2
      · have k2 : k = 3 := (by omega)
        subst k2
        rw [e]; exact g3
      · have k2 : k = 4 := (by omega)
        subst k2
        rw [e]; exact g4
    have ad : (adVo C (T 0 8) n).1 = !inS (C 0 (voF (T 0 8))) n := rfl
    have ad2 : (adVo C (T 0 8) n).2 = upd2 C 0 (voF (T 0 8)) (setB (C 0 (voF (T 0 8))) n) := rfl
    refine ⟨inA (by omega) (by omega), fun c3 => ⟨inA (by omega) (by omega), ?_⟩, fun c3 => ?_⟩
    · have nb : inS (C 0 (voF (T 0 8))) n = false := by
        cases q : inS (C 0 (voF (T 0 8))) n with
        | false => rfl
        | true => rw [hv, q] at c3; exact absurd (by decide +kernel) c3
      rw [if_pos (by rw [ad, nb]; rfl)] at hy hn
      rw [iN_small (z := 1) (by omega) (by omega), zA_u]
      have k1 : T 0 3 ≠ 4 := by have := (ok.wd (by omega)).1; omega
      have vr := voF_rng (T 0 8)
      have ms := hV.ms (voF (T 0 8)) (by omega) (by omega)
      have sr := setB_rng (s := n) ms.1 ms.2 n8
      have fr : ∀ j, 2408 ≤ j → j < 2408 + 238 → finA (updP A (2414 + 8 * n + k) 1) 2408 n j = updP (finA A 2408 n) (2408 + 6 + 8 * n + k) 1 j := by
        intro j j1 j2
        simp only [finA_at, updP_at]
        repeat' split
        all_goals first | rfl | omega
      have V2 : VB (upd2 C 0 (voF (T 0 8)) (setB (C 0 (voF (T 0 8))) n)) := VB_vo hV (T 0 8) n8
      have W2' : WC (upd2 C 0 (voF (T 0 8)) (setB (C 0 (voF (T 0 8))) n)) := by
        have w8 := hW.2.2.2.2.2.2.2.2.1
        have v12 : voF (T 0 8) ≠ 12 := (by omega)
        refine WC_m hW (by omega) (by omega) V2 (fun t ht => ?_)
        rw [inS_setB ms.1 ms.2 n8, w8 (voF (T 0 8)) (by omega) (by omega) t ht]
        rw [h8] at ht
        simp
        omega
      have hm' : ∀ s, inS (setB (C 0 (voF (T 0 8))) n) s = if s = n then true else inS (C 0 (voF (T 0 8))) s := fun s => by
        rw [inS_setB ms.1 ms.2 n8]
        by_cases q : s = n
        · rw [if_pos q, decide_eq_true q, Bool.or_true]
        · rw [if_neg q, decide_eq_false q, Bool.or_false]
      have R2 : RR (upd2 C 0 (voF (T 0 8)) (setB (C 0 (voF (T 0 8))) n)) (finA (updP A (2414 + 8 * n + k) 1) 2408 n) 2408 := by
        refine RR.fr V2 ?_ fr
        rcases vo with e | e | e
        · have k2 : k = 2 := (by omega)
          subst k2
          rw [e] at hm' ⊢
          exact RR_bass (b := true) hV hR n8 hm'
        · have k2 : k = 3 := (by omega)
          subst k2
          rw [e] at hm' ⊢
          exact RR_cold (b := true) hV hR n8 hm'
        · have k2 : k = 4 := (by omega)
          subst k2
          rw [e] at hm' ⊢
          exact RR_deaf (b := true) hV hR n8 hm'
      have cn : cntV (upd2 C 0 (voF (T 0 8)) (setB (C 0 (voF (T 0 8))) n)) n = cntV C n + 1 := by
        have s1 := hm' n
        rw [if_pos rfl] at s1
        unfold cntV
        rcases vo with e | e | e
        · rw [e] at s1 nb ⊢
          rw [show voF 2 = 9 from rfl] at s1 nb ⊢
          rw [upd2_same, upd2_k _ _ (by decide), upd2_k _ _ (by decide), s1, nb]
          simp [b2i]; omega
        · rw [e] at s1 nb ⊢
          rw [show voF 3 = 11 from rfl] at s1 nb ⊢
          rw [upd2_same, upd2_k _ _ (by decide), upd2_k _ _ (by decide), s1, nb]
          simp [b2i]
        · rw [e] at s1 nb ⊢
          rw [show voF 4 = 10 from rfl] at s1 nb ⊢
          rw [upd2_same, upd2_k _ _ (by decide), upd2_k _ _ (by decide), s1, nb]
          simp [b2i]; omega
      refine r_next (by omega) hX L9 ok k1 (fun Z2 z1 z2 => ?_)
      refine ih (advT X L T) _ Z2 (updP A (2414 + 8 * n + k) 1) (by rw [cn]; push_cast at hm; omega) z2 ⟨W2', ?_, ?_, ?_⟩ ?_ ?_ R2 (fun a Z3 A3 b c d e => ?_) (fun a Z3 A3 b c => ?_)
      · rw [upd2_k _ _ (by omega)]; exact h8
      · rw [upd2_c _ _ (by decide)]; exact hF
      · rw [upd2_k _ _ (by omega)]; exact h12
      · rw [upd2_c _ _ (by decide)]; exact h43
      · rw [updP_ne _ _ (by omega)]; exact hA
      · intro f g i
        refine hy a Z3 A3 (z1.tr b) (fun j hj => by rw [c j hj, updP_ne _ _ (by omega)]) (fun s j s1 s2 s3 => by rw [d s j s1 s2 s3, updP_ne _ _ (by omega)]) e f g (i.trans (upd2_c _ _ (show 1 ≠ 0 by decide)))
      · exact hn a Z3 A3 (z1.tr b) (fun j hj => by rw [c j hj, updP_ne _ _ (by omega)])
    · have nb : inS (C 0 (voF (T 0 8))) n = true := by
        cases q : inS (C 0 (voF (T 0 8))) n with
        | true => rfl
        | false => rw [hv, q] at c3; exact absurd c3 (by decide +kernel)
      rw [if_neg (by rw [ad, nb]; decide)] at hn
      refine r_fails (by omega) ok (by omega) (by omega) (fun Z2 z1 z2 => ⟨z01, ?_⟩)
      have e4 : sS4 X L n (false, rfT T 5, (adVo C (T 0 8) n).2) = (false, rfT T 5, (adVo C (T 0 8) n).2) := by
        unfold sS4
        rw [if_neg (by simp)]
      rw [e4] at hn
      exact hn rfl Z2 A z1 (FrN.rf _) z2
