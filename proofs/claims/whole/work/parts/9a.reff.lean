def ZS (Z Z' : Ch) : Prop := ∀ c, c ≠ 9 → c ≠ 10 → Z' c = Z c
theorem r_isIn {l : Launch} {E : EnvT} {d : Nat} {K : AV → Mem → Prop} {M : Mem} {Z : Ch} {A : Nat → Int} {m s : Nat} (hd : 1 ≤ d) (h2 : m < 256) (h3 : s < 8) (h : K (.int (iN (b2i (m.testBit s))), 0) (zA M Z A)) : CT l E d m_Mod_isIn [(.ref 24, 41), (.int (iN m), 0), (.int (iN s), 0)] (zA M Z A) K := by
  refine CT.of pn_Mod (Nat.le_of_ble_eq_true rfl) ?_
  refine b_Mod_isIn_0 hd ?_
  rw [shr_bit (m := (m : Int)) (by omega) (by omega) h3, inS_nat]
  cases hb : m.testBit s with
  | false => rw [hb] at h; exact ⟨fun _ => ⟨z01, h⟩, fun c => absurd c (by decide +kernel)⟩
  | true => rw [hb] at h; exact ⟨fun c => absurd (by decide +kernel) c, fun _ => ⟨o01, h⟩⟩
theorem r_unevenSet {l : Launch} {E : EnvT} {d : Nat} {K : AV → Mem → Prop} {M : Mem} {C Z T : Ch} {A : Nat → Int} {n : Nat} (hd : 8 ≤ d) (hB : Z 0 21 = 0) (hW : WC C) (hR : RR C A 0) (hn : C 0 8 = n) (hT : LK T C n) (h : K (.int (iN (unM (T 1) n : Nat)), 0) (zA M Z A)) : CT l E d m_Mod_unevenSet [(.ref 24, 41)] (zA M Z A) K := by
  refine CT.of pn_Mod (Nat.le_of_ble_eq_true rfl) ?_
  have hV := hW.1
  have hnn := hV.n
  have key : ∀ k, k ≤ n → G l E d m_Mod_unevenSet 4 [(0, (.ref 24, 41)), (1, (.int (iN (msk (fun s => T 1 s != 0) k : Nat)), 0)), (2, (.int (iN k), 0))] [] (zA M Z A) K := by
    refine dn n ?_ (fun k hk ih => ?_)
    · refine b_Mod_unevenSet_4 (by omega) ?_
      simp only [zA_1]
      rw [clA (z := 0) (j := 0 + 0) (by omega) (by omega), hR.1.1, hn]
      exact ⟨inA (by omega) (by omega), fun _ => h, fun c => absurd ((iN_le (by omega) (by omega) (by omega) (by omega)).mpr (by omega)) c⟩
    · refine b_Mod_unevenSet_4 (by omega) ?_
      simp only [zA_1]
      rw [clA (z := 0) (j := 0 + 0) (by omega) (by omega), hR.1.1, hn]
      refine ⟨inA (by omega) (by omega), fun c => absurd ((iN_le (by omega) (by omega) (by omega) (by omega)).mp c) (by omega), fun _ => r_balanceOf (by omega) hB hW hR (by omega) ?_⟩
      have br := balC_rng hV (s := k) (by omega)
      have ml := msk_lt (fun s => T 1 s != 0) k (by omega)
      have et := (hT.2.2 k hk).1
      rw [toI_int, iN_eq0 (by omega) (by omega), iN_add, or_bit (by omega) (by omega) (by omega), setB_nat, or_0 ml]
      refine ⟨fun c => ?_, fun c => ?_⟩
      · simpa [msk, show T 1 k = 0 by omega] using ih
      · simpa [msk, show ¬ T 1 k = 0 by omega] using ih
  exact b_Mod_unevenSet_0 (by omega) (key 0 (by omega))
theorem r_partsOf {l : Launch} {E : EnvT} {d : Nat} {K : AV → Mem → Prop} {M : Mem} {C Z T : Ch} {A : Nat → Int} {n : Nat} (hd : 9 ≤ d) (hB : Z 0 21 = 0) (hW : WC C) (hR : RR C A 0) (hn : C 0 8 = n) (hT : LK T C n) (h : ∀ Z', ZS Z Z' → K (.int (iN (BP (T 1) n (unM (T 1) n))), 0) (zA M Z' A)) : CT l E d m_Mod_partsOf [(.ref 24, 41)] (zA M Z A) K := by
  refine CT.of pn_Mod (Nat.le_of_ble_eq_true rfl) ?_
  have hV := hW.1
  have hnn := hV.n
  have n8 : n ≤ 8 := (by omega)
  have lt := unM_lt (T 1) n8
  refine b_Mod_partsOf_0 (by omega) (r_unevenSet (by omega) hB hW hR hn hT ?_)
  rw [toI_int]
  generalize hall : unM (T 1) n = all at *
  have aa : nAnd all all = 0 := by
    have : ∀ a : Nat, a < 256 → nAnd a a = 0 := by decide +kernel
    exact this all lt
  have hb := hT.b hV n8
  have mr : ∀ y, y < 256 → ∀ k : Nat, 0 ≤ mxN (fun s => if y.testBit s then BP (T 1) n (clrN y s) else 0) k ∧ mxN (fun s => if y.testBit s then BP (T 1) n (clrN y s) else 0) k ≤ 256 := by
    intro y y2 k
    refine mxN_rng (by omega) k (fun s _ => ?_)
    have c1 := clrN_256 (s := s) y2
    have := bestP_rng (T 1) n (clrN y s) (clrN y s)
    show (if y.testBit s then bestP (T 1) n (clrN y s) (clrN y s) else 0) ≤ 256
    split <;> omega
  have key : ∀ (f y : Nat) (Y : Ch), y + f = all + 1 → (∀ c, c ≠ 9 → Y c = Z c) → (∀ x, x < y → nAnd x all = 0 → Y 9 x = BP (T 1) n x) → G l E d m_Mod_partsOf 7 [(0, (.ref 24, 41)), (1, (.int (iN all), 0)), (2, (.int (iN y), 0))] [] (zA M Y A) K := by
    intro f
    induction f with
    | zero =>
      intro y Y e1 e2 e3
      refine b_Mod_partsOf_7 (by omega) ⟨fun _ => ⟨iN_in (by omega) (by omega) (by omega), ?_⟩, fun c => absurd ((iN_lt (by omega) (by omega) (by omega) (by omega)).mpr (by omega)) c⟩
      rw [zA_c M Y A (show 9 ≠ 1 by decide), iN_clN (by omega), e3 all (by omega) aa]
      exact h Y (fun c h9 _ => e2 c h9)
    | succ f ih =>
      intro y Y e1 e2 e3
      have nl := nAnd_lt all (show y < 256 by omega)
      refine b_Mod_partsOf_7 (by omega) ⟨fun c => absurd ((iN_lt (by omega) (by omega) (by omega) (by omega)).mp c) (by omega), fun _ => ⟨iN_in (by omega) (by omega) (by omega), ?_⟩⟩
      rw [and_not y (by omega) all lt, iN_eq0 (by omega) (by omega), iN_add, iN_clN (by omega), zA_uo M Y A (show 9 ≠ 1 by decide), iN_0I]
      have ky : ∀ x, x < y → upd2 Y 9 y 0 9 x = Y 9 x := fun x hx => upd2_k _ _ (by omega)
      refine ⟨fun c => ?_, fun c => ih (y + 1) _ (by omega) (fun c h9 => by rw [upd2_c _ _ h9]; exact e2 c h9) (fun x x1 x2 => ?_)⟩
      · have row : ∀ (g k : Nat) (Y' : Ch), k + g = n → (∀ c, c ≠ 9 → Y' c = Z c) → (∀ x, x < y → Y' 9 x = Y 9 x) → Y' 9 y = mxN (fun s => if y.testBit s then BP (T 1) n (clrN y s) else 0) k → G l E d m_Mod_partsOf 35 [(0, (.ref 24, 41)), (1, (.int (iN all), 0)), (2, (.int (iN y), 0)), (3, (.int (iN (sumM (T 1) y k)), 0)), (4, (.int (iN k), 0))] [] (zA M Y' A) K := by
          intro g
          induction g with
          | zero =>
            intro k Y' g1 g2 g3 g4
            have : k = n := (by omega)
            subst this
            have m1 := mr y (by omega) k
            have sr := sumM_rng n8 hb y
            refine b_Mod_partsOf_35 (by omega) ?_
            simp only [zA_1]
            rw [clA (z := 0) (j := 0 + 0) (by omega) (by omega), hR.1.1, hn, zA_c M Y' A (show 9 ≠ 1 by decide), iN_clN (by omega), g4, iN_eq0 (a := (y : Int)) (by omega) (by omega), iN_eq0 (a := sumM (T 1) y k) (by omega) (by omega)]
            simp only [iN_add, zA_uo M Y' A (show 9 ≠ 1 by decide)]
            have nx : ∀ v : Int, v = BP (T 1) k y → G l E d m_Mod_partsOf 7 [(0, (.ref 24, 41)), (1, (.int (iN all), 0)), (2, (.int (iN ((y : Int) + 1)), 0))] [] (zA M (upd2 Y' 9 y v) A) K := by
              intro v ev
              refine ih (y + 1) _ (by omega) (fun c h9 => by rw [upd2_c _ _ h9]; exact g2 c h9) (fun x x1 x2 => ?_)
              rw [upd2_at]
              by_cases ex : x = y
              · subst ex; rw [if_pos rfl]; exact ev
              · rw [if_neg ex, g3 x (by omega)]; exact e3 x (by omega) x2
            refine ⟨inA (by omega) (by omega), fun _ => ⟨iN_in (by omega) (by omega) (by omega), fun c2 => ⟨iN_in (by omega) (by omega) (by omega), ?_⟩, fun c2 => ⟨fun c3 => ⟨iN_in (by omega) (by omega) (by omega), ?_⟩, fun c3 => ⟨iN_in (by omega) (by omega) (by omega), ?_⟩⟩⟩, fun c => absurd ((iN_le (by omega) (by omega) (by omega) (by omega)).mpr (by omega)) c⟩
            · rw [iN_small (by omega) (by omega)]
              refine nx _ ?_
              have y0 : y = 0 := (by omega)
              subst y0
              have z0 : ∀ m, mxN (fun s => if (0 : Nat).testBit s then BP (T 1) k (clrN 0 s) else 0) m = 0 := by
                intro m
                induction m with
                | zero => rfl
                | succ m ih =>
                  show max (mxN _ m) (if (0 : Nat).testBit m then BP (T 1) k (clrN 0 m) else 0) = 0
                  rw [ih, Nat.zero_testBit]
                  rfl
              rw [z0]
              rfl
            · rw [iN_small (by omega) (by omega)]
              refine nx _ ?_
              rw [BP_step (T 1) n8 (by omega) (by omega), if_neg c3]
            · rw [iN_small (by omega) (by omega)]
              refine nx _ ?_
              rw [BP_step (T 1) n8 (by omega) (by omega), if_pos c3]
          | succ g ih2 =>
            intro k Y' g1 g2 g3 g4
            have hB' : Y' 0 21 = 0 := by rw [g2 0 (by decide)]; exact hB
            have m1 := mr y (by omega) k
            refine b_Mod_partsOf_35 (by omega) ?_
            simp only [zA_1]
            rw [clA (z := 0) (j := 0 + 0) (by omega) (by omega), hR.1.1, hn]
            refine ⟨inA (by omega) (by omega), fun c => absurd ((iN_le (by omega) (by omega) (by omega) (by omega)).mp c) (by omega), fun _ => r_isIn (by omega) (by omega) (by omega) ?_⟩
            have em : mxN (fun s => if y.testBit s then BP (T 1) n (clrN y s) else 0) (k + 1) = max (mxN (fun s => if y.testBit s then BP (T 1) n (clrN y s) else 0) k) (if y.testBit k then BP (T 1) n (clrN y k) else 0) := rfl
            have es : sumM (T 1) y (k + 1) = sumM (T 1) y k + (if y.testBit k then T 1 k else 0) := rfl
            have ihk := ih2 (k + 1)
            rw [em, es] at ihk
            rw [toI_int, b2i_z, iN_add]
            refine ⟨fun c2 => r_balanceOf (by omega) hB' hW hR (by omega) ?_, fun c2 => ?_⟩
            · rw [Bool.not_eq_false] at c2
              rw [c2, if_pos rfl, if_pos rfl] at ihk
              have cl := clrN_lt y (by omega) k (by omega) c2
              have br2 : 0 ≤ BP (T 1) n (clrN y k) ∧ BP (T 1) n (clrN y k) ≤ clrN y k := bestP_rng (T 1) n (clrN y k) (clrN y k)
              have eb := e3 (clrN y k) cl (clrN_sub k (by omega))
              rw [toI_int, clr_bit (by omega) (by omega) (by omega), clrB_nat, iN_clN (by omega), iN_clN (by omega), zA_c M Y' A (show 9 ≠ 1 by decide), g4, g3 _ cl, eb]
              refine ⟨iN_in (by omega) (by omega) (by omega), iN_in (by omega) (by omega) (by omega), c_max (by omega) (by omega) (by omega) (by omega) (by omega) ⟨iN_in (by omega) (by omega) (by omega), ?_⟩⟩
              rw [toI_int, iN_add, ← (hT.2.2 k (by omega)).1, zA_uo M Y' A (show 9 ≠ 1 by decide), iN_small (by omega) (by omega)]
              refine ihk _ (by omega) (fun c h9 => by rw [upd2_c _ _ h9]; exact g2 c h9) (fun x hx => ?_) (upd2_same _ _ _ _)
              rw [upd2_k _ _ (by omega)]; exact g3 x hx
            · rw [c2, if_neg (by simp), if_neg (by simp), Int.add_zero, show max (mxN (fun s => if y.testBit s then BP (T 1) n (clrN y s) else 0) k) 0 = mxN (fun s => if y.testBit s then BP (T 1) n (clrN y s) else 0) k by omega] at ihk
              exact ihk Y' (by omega) g2 g3 g4
        exact row n 0 _ (by omega) (fun c h9 => by rw [upd2_c _ _ h9]; exact e2 c h9) ky (upd2_same _ _ _ _)
      · by_cases ex : x = y
        · subst ex; omega
        · rw [ky x (by omega)]; exact e3 x (by omega) x2
  exact key (all + 1) 0 Z (by omega) (fun _ _ => rfl) (fun x hx => by omega)
theorem r_parts {l : Launch} {E : EnvT} {d : Nat} {K : AV → Mem → Prop} {M : Mem} {C Z T : Ch} {A : Nat → Int} {n : Nat} (hd : 10 ≤ d) (hB : Z 0 21 = 0) (hW : WC C) (hR : RR C A 0) (hn : C 0 8 = n) (hT : LK T C n) (h : ∀ Z', ZS Z Z' → K (.int (iN (BP (T 1) n (unM (T 1) n))), 0) (zA M (sZ Z' 0) A)) : CT l E d m_Mod_parts [(.ref 24, 41)] (zA M Z A) K := by
  refine CT.of pn_Mod (Nat.le_of_ble_eq_true rfl) ?_
  exact b_Mod_parts_0 (by omega) (r_partsOf (by omega) hB hW hR hn hT (fun Z' f => r_gives (by omega) (h Z' f)))
theorem r_payings {l : Launch} {E : EnvT} {d : Nat} {K : AV → Mem → Prop} {M : Mem} {C Z T : Ch} {A : Nat → Int} {n : Nat} (hd : 10 ≤ d) (hB : Z 0 21 = 0) (hW : WC C) (hR : RR C A 0) (hn : C 0 8 = n) (hT : LK T C n) (h : ∀ Z', ZS Z Z' → K (.int (iN (popc (unM (T 1) n) - BP (T 1) n (unM (T 1) n))), 0) (zA M (sZ Z' 0) A)) : CT l E d m_Mod_payings [(.ref 24, 41)] (zA M Z A) K := by
  refine CT.of pn_Mod (Nat.le_of_ble_eq_true rfl) ?_
  have hnn := hW.1.n
  have lt := unM_lt (T 1) (n := n) (by omega)
  refine b_Mod_payings_0 (by omega) (r_unevenSet (by omega) hB hW hR hn hT (r_bits (by omega) lt (r_partsOf (by omega) hB hW hR hn hT (fun Z' f => r_gives (by omega) ?_))))
  simp only [toI_int, iN_sub]
  exact h Z' f
