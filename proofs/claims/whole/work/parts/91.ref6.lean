def sZ (Z : Ch) (w : Int) : Ch := upd2 Z 0 2 w
theorem sZ_21 (Z : Ch) (w : Int) : sZ Z w 0 21 = Z 0 21 := by unfold sZ; rw [upd2_k _ _ (by decide)]
theorem r_refuse {l : Launch} {E : EnvT} {d : Nat} {K : AV → Mem → Prop} {M : Mem} {Z : Ch} {A : Nat → Int} {w : Int} (hd : 1 ≤ d) (w1 : 0 ≤ w) (w2 : w ≤ 9) (h : K (.int (iN (-1)), 0) (zA M (sZ Z w) A)) : CT l E d m_Mod_refuse [(.ref 24, 41), (.int (iN w), 0)] (zA M Z A) K := by
  refine CT.of pn_Mod (Nat.le_of_ble_eq_true rfl) ?_
  refine b_Mod_refuse_0 hd ?_
  rw [zA_u0, iN_small (by omega) (by omega)]
  exact h
theorem r_gives {l : Launch} {E : EnvT} {d : Nat} {K : AV → Mem → Prop} {M : Mem} {Z : Ch} {A : Nat → Int} {x : Int32} (hd : 1 ≤ d) (h : K (.int x, 0) (zA M (sZ Z 0) A)) : CT l E d m_Mod_gives [(.ref 24, 41), (.int x, 0)] (zA M Z A) K := by
  refine CT.of pn_Mod (Nat.le_of_ble_eq_true rfl) ?_
  refine b_Mod_gives_0 hd ?_
  rw [zA_u0, iN_0I]
  exact h
theorem r_is {l : Launch} {E : EnvT} {d : Nat} {K : AV → Mem → Prop} {M : Mem} {Z : Ch} {A : Nat → Int} {w : Int} (hd : 1 ≤ d) (w1 : 0 ≤ w) (w2 : w ≤ 9) (h : K (.int (iN (b2i (decide (w = 0)))), 0) (zA M (sZ Z w) A)) : CT l E d m_Mod_is [(.ref 24, 41), (.int (iN w), 0)] (zA M Z A) K := by
  refine CT.of pn_Mod (Nat.le_of_ble_eq_true rfl) ?_
  refine b_Mod_is_0 hd ?_
  rw [zA_u0, iN_small (by omega) (by omega), iN_eq0 (by omega) (by omega)]
  refine ⟨fun c => ⟨z01, ?_⟩, fun c => ⟨o01, ?_⟩⟩
  · rw [decide_eq_false c] at h; exact h
  · rw [decide_eq_true c] at h; exact h
theorem r_orNone {l : Launch} {E : EnvT} {d : Nat} {K : AV → Mem → Prop} {M : Mem} {Z : Ch} {A : Nat → Int} {x : Int} (hd : 2 ≤ d) (x1 : -2147483648 ≤ x) (x2 : x < 2147483648) (h : K (.int (iN (ansOr x 6).1), 0) (zA M (sZ Z (ansOr x 6).2) A)) : CT l E d m_Mod_orNone [(.ref 24, 41), (.int (iN x), 0)] (zA M Z A) K := by
  refine CT.of pn_Mod (Nat.le_of_ble_eq_true rfl) ?_
  refine b_Mod_orNone_0 (by omega) ?_
  unfold ansOr at h
  rw [iN_eq x1 x2 (by omega) (by omega)]
  refine ⟨fun c => r_gives (by omega) ?_, fun c => r_refuse (by omega) (by omega) (by omega) ?_⟩
  · rw [if_neg c] at h; exact h
  · rw [if_pos c] at h; exact h
theorem r_isSinger {l : Launch} {E : EnvT} {d : Nat} {K : AV → Mem → Prop} {M : Mem} {C Z : Ch} {A : Nat → Int} {z : Int} (hd : 1 ≤ d) (hV : VB C) (hR : RR C A 0) (h1 : -2147483648 ≤ z) (h2 : z < 2147483648) (h : K (.int (iN (b2i (knowsB C z))), 0) (zA M Z A)) : CT l E d m_Mod_isSinger [(.ref 24, 41), (.int (iN z), 0)] (zA M Z A) K := by
  refine CT.of pn_Mod (Nat.le_of_ble_eq_true rfl) ?_
  have hn := hV.n
  refine b_Mod_isSinger_0 hd ?_
  unfold knowsB at h
  simp only [zA_1]
  rw [clA (z := 0) (j := 0 + 0) (by omega) (by omega), hR.1.1, iN_lt0 h1 h2, iN_le (by omega) (by omega) h1 h2]
  refine ⟨fun c => ⟨z01, ?_⟩, fun c => ⟨inA (by omega) (by omega), fun c2 => ⟨z01, ?_⟩, fun c2 => ⟨o01, ?_⟩⟩⟩
  · rw [decide_eq_false (by omega)] at h; exact h
  · rw [decide_eq_false (by omega)] at h; exact h
  · rw [decide_eq_true (by omega)] at h; exact h
theorem r_isLiving {l : Launch} {E : EnvT} {d : Nat} {K : AV → Mem → Prop} {M : Mem} {C Z : Ch} {A : Nat → Int} {z : Int} (hd : 4 ≤ d) (hB : Z 0 21 = 0) (hV : VB C) (hR : RR C A 0) (h1 : -2147483648 ≤ z) (h2 : z < 2147483648) (h : K (.int (iN (b2i (livesB C z))), 0) (zA M Z A)) : CT l E d m_Mod_isLiving [(.ref 24, 41), (.int (iN z), 0)] (zA M Z A) K := by
  refine CT.of pn_Mod (Nat.le_of_ble_eq_true rfl) ?_
  refine b_Mod_isLiving_0 (by omega) (r_isSinger (by omega) hV hR h1 h2 ?_)
  rw [toI_int, b2i_z]
  refine ⟨fun c => ⟨z01, ?_⟩, fun c => ?_⟩
  · have e : livesB C z = false := by
      cases hl : livesB C z with
      | false => rfl
      | true =>
        have := (livesB_alv hl).1
        have := of_decide_eq_false c
        omega
    rw [e] at h; exact h
  · rw [Bool.not_eq_false] at c
    have t := knowsB_spec c
    obtain ⟨s, rfl⟩ : ∃ s : Nat, z = s := ⟨z.toNat, (by omega)⟩
    refine c_isDead (by omega) hB hV hR t.2 ?_
    rw [toI_int, b2i_z]
    unfold livesB at h
    rw [show decide (0 ≤ (s : Int) ∧ (s : Int) < C 0 8) = true from decide_eq_true t, show ((s : Int)).toNat = s from rfl] at h
    refine ⟨fun c2 => ⟨z01, ?_⟩, fun c2 => ⟨o01, ?_⟩⟩
    · rw [Bool.not_eq_false] at c2
      rw [c2] at h; exact h
    · rw [c2] at h; exact h
theorem r_areTwo {l : Launch} {E : EnvT} {d : Nat} {K : AV → Mem → Prop} {M : Mem} {C Z : Ch} {A : Nat → Int} {a b : Int} (hd : 5 ≤ d) (hB : Z 0 21 = 0) (hV : VB C) (hR : RR C A 0) (h1 : -2147483648 ≤ a) (h2 : a < 2147483648) (h3 : -2147483648 ≤ b) (h4 : b < 2147483648) (h : K (.int (iN (b2i (twoB C a b))), 0) (zA M Z A)) : CT l E d m_Mod_areTwo [(.ref 24, 41), (.int (iN a), 0), (.int (iN b), 0)] (zA M Z A) K := by
  refine CT.of pn_Mod (Nat.le_of_ble_eq_true rfl) ?_
  refine b_Mod_areTwo_0 (by omega) (r_isLiving (by omega) hB hV hR h1 h2 ?_)
  unfold twoB at h
  rw [toI_int, b2i_z]
  refine ⟨fun c => ⟨z01, ?_⟩, fun c => r_isLiving (by omega) hB hV hR h3 h4 ?_⟩
  · rw [c] at h; exact h
  · rw [Bool.not_eq_false] at c
    rw [c] at h
    rw [toI_int, b2i_z, iN_eq h1 h2 h3 h4]
    refine ⟨fun c2 => ⟨z01, ?_⟩, fun c2 => ⟨fun c3 => ⟨z01, ?_⟩, fun c3 => ⟨o01, ?_⟩⟩⟩
    · rw [c2] at h; exact h
    · rw [Bool.not_eq_false] at c2
      rw [c2, decide_eq_true c3] at h; exact h
    · rw [Bool.not_eq_false] at c2
      rw [c2, decide_eq_false c3] at h; exact h
theorem r_isNote {l : Launch} {E : EnvT} {d : Nat} {K : AV → Mem → Prop} {M : Mem} {C Z : Ch} {A : Nat → Int} {a b : Int} (hd : 3 ≤ d) (hB : Z 0 21 = 0) (hV : VB C) (hR : RR C A 0) (h1 : -2147483648 ≤ a) (h2 : a < 2147483648) (h3 : -2147483648 ≤ b) (h4 : b < 2147483648) (h : K (.int (iN (b2i (noteB C a b))), 0) (zA M Z A)) : CT l E d m_Mod_isNote [(.ref 24, 41), (.int (iN a), 0), (.int (iN b), 0)] (zA M Z A) K := by
  refine CT.of pn_Mod (Nat.le_of_ble_eq_true rfl) ?_
  have hn := hV.n
  refine b_Mod_isNote_0 (by omega) (r_isSinger (by omega) hV hR h1 h2 ?_)
  unfold noteB at h
  rw [toI_int, b2i_z]
  refine ⟨fun c => ⟨z01, ?_⟩, fun c => ?_⟩
  · rw [c] at h; exact h
  · rw [Bool.not_eq_false] at c
    rw [c, Bool.true_and] at h
    have t := knowsB_spec c
    obtain ⟨s, rfl⟩ : ∃ s : Nat, a = s := ⟨a.toNat, (by omega)⟩
    rw [show ((s : Int)).toNat = s from rfl] at h
    have le := hV.le s (by omega)
    rw [iN_lt0 h3 h4]
    refine ⟨fun c2 => ⟨z01, ?_⟩, fun c2 => c_of (B := 0) (w := 1) (by omega) hB (by omega) (by omega) (by omega) ?_⟩
    · rw [decide_eq_false (by omega)] at h; exact h
    · rw [(hR.2.1 s t.2).2.1, toI_int, iN_le (by omega) (by omega) h3 h4]
      refine ⟨fun c3 => ⟨z01, ?_⟩, fun c3 => ⟨o01, ?_⟩⟩
      · rw [decide_eq_false (by omega)] at h; exact h
      · rw [decide_eq_true (by omega)] at h; exact h
theorem r_owesAll {l : Launch} {E : EnvT} {d : Nat} {K : AV → Mem → Prop} {M : Mem} {C Z : Ch} {A : Nat → Int} {a : Nat} (hd : 6 ≤ d) (hB : Z 0 21 = 0) (hW : WC C) (hR : RR C A 0) (ha : (a : Int) < C 0 8) (h : K (.int (iN (owesC C a)), 0) (zA M Z A)) : CT l E d m_Mod_owesAll [(.ref 24, 41), (.int (iN a), 0)] (zA M Z A) K := by
  refine CT.of pn_Mod (Nat.le_of_ble_eq_true rfl) ?_
  have hV := hW.1
  have hn := hV.n
  obtain ⟨n, hnn⟩ : ∃ n : Nat, C 0 8 = n := ⟨(C 0 8).toNat, (by omega)⟩
  rw [← sum_owes hW hnn] at h
  have key : ∀ k, k ≤ n → G l E d m_Mod_owesAll 4 [(0, (.ref 24, 41)), (1, (.int (iN a), 0)), (2, (.int (iN (sumN (fun b => owedC C a b) k)), 0)), (3, (.int (iN k), 0))] [] (zA M Z A) K := by
    refine dn n ?_ (fun k hk ih => ?_)
    · refine b_Mod_owesAll_4 (by omega) ?_
      simp only [zA_1]
      rw [clA (z := 0) (j := 0 + 0) (by omega) (by omega), hR.1.1, hnn]
      exact ⟨inA (by omega) (by omega), fun _ => h, fun c => absurd ((iN_le (by omega) (by omega) (by omega) (by omega)).mpr (by omega)) c⟩
    · refine b_Mod_owesAll_4 (by omega) ?_
      simp only [zA_1]
      rw [clA (z := 0) (j := 0 + 0) (by omega) (by omega), hR.1.1, hnn]
      refine ⟨inA (by omega) (by omega), fun c => absurd ((iN_le (by omega) (by omega) (by omega) (by omega)).mp c) (by omega), fun _ => c_owes (by omega) hB hV hR (by omega) (by omega) (by omega) ?_⟩
      rw [toI_int, iN_add, iN_add]
      exact ih
  exact b_Mod_owesAll_0 (by omega) (key 0 (by omega))
theorem r_owedAll {l : Launch} {E : EnvT} {d : Nat} {K : AV → Mem → Prop} {M : Mem} {C Z : Ch} {A : Nat → Int} {b : Nat} (hd : 6 ≤ d) (hB : Z 0 21 = 0) (hW : WC C) (hR : RR C A 0) (hb : (b : Int) < C 0 8) (h : K (.int (iN (isOwC C b)), 0) (zA M Z A)) : CT l E d m_Mod_owedAll [(.ref 24, 41), (.int (iN b), 0)] (zA M Z A) K := by
  refine CT.of pn_Mod (Nat.le_of_ble_eq_true rfl) ?_
  have hV := hW.1
  have hn := hV.n
  obtain ⟨n, hnn⟩ : ∃ n : Nat, C 0 8 = n := ⟨(C 0 8).toNat, (by omega)⟩
  rw [← sum_owed hW hnn (by omega)] at h
  have key : ∀ k, k ≤ n → G l E d m_Mod_owedAll 4 [(0, (.ref 24, 41)), (1, (.int (iN b), 0)), (2, (.int (iN (sumN (fun a => owedC C ((a : Nat) : Int) b) k)), 0)), (3, (.int (iN k), 0))] [] (zA M Z A) K := by
    refine dn n ?_ (fun k hk ih => ?_)
    · refine b_Mod_owedAll_4 (by omega) ?_
      simp only [zA_1]
      rw [clA (z := 0) (j := 0 + 0) (by omega) (by omega), hR.1.1, hnn]
      exact ⟨inA (by omega) (by omega), fun _ => h, fun c => absurd ((iN_le (by omega) (by omega) (by omega) (by omega)).mpr (by omega)) c⟩
    · refine b_Mod_owedAll_4 (by omega) ?_
      simp only [zA_1]
      rw [clA (z := 0) (j := 0 + 0) (by omega) (by omega), hR.1.1, hnn]
      refine ⟨inA (by omega) (by omega), fun c => absurd ((iN_le (by omega) (by omega) (by omega) (by omega)).mp c) (by omega), fun _ => c_owes (by omega) hB hV hR hb (by omega) (by omega) ?_⟩
      rw [toI_int, iN_add, iN_add]
      exact ih
  exact b_Mod_owedAll_0 (by omega) (key 0 (by omega))
theorem r_allOwed {l : Launch} {E : EnvT} {d : Nat} {K : AV → Mem → Prop} {M : Mem} {C Z : Ch} {A : Nat → Int} (hd : 7 ≤ d) (hB : Z 0 21 = 0) (hW : WC C) (hR : RR C A 0) (h : K (.int (iN (allOwC C 0)), 0) (zA M Z A)) : CT l E d m_Mod_allOwed [(.ref 24, 41)] (zA M Z A) K := by
  refine CT.of pn_Mod (Nat.le_of_ble_eq_true rfl) ?_
  have hV := hW.1
  have hn := hV.n
  obtain ⟨n, hnn⟩ : ∃ n : Nat, C 0 8 = n := ⟨(C 0 8).toNat, (by omega)⟩
  rw [← sum_all hW hnn] at h
  have key : ∀ k, k ≤ n → G l E d m_Mod_allOwed 4 [(0, (.ref 24, 41)), (1, (.int (iN (sumN (fun a => owesC C ((a : Nat) : Int)) k)), 0)), (2, (.int (iN k), 0))] [] (zA M Z A) K := by
    refine dn n ?_ (fun k hk ih => ?_)
    · refine b_Mod_allOwed_4 (by omega) ?_
      simp only [zA_1]
      rw [clA (z := 0) (j := 0 + 0) (by omega) (by omega), hR.1.1, hnn]
      exact ⟨inA (by omega) (by omega), fun _ => h, fun c => absurd ((iN_le (by omega) (by omega) (by omega) (by omega)).mpr (by omega)) c⟩
    · refine b_Mod_allOwed_4 (by omega) ?_
      simp only [zA_1]
      rw [clA (z := 0) (j := 0 + 0) (by omega) (by omega), hR.1.1, hnn]
      refine ⟨inA (by omega) (by omega), fun c => absurd ((iN_le (by omega) (by omega) (by omega) (by omega)).mp c) (by omega), fun _ => r_owesAll (by omega) hB hW hR (by omega) ?_⟩
      rw [toI_int, iN_add, iN_add]
      exact ih
  exact b_Mod_allOwed_0 (by omega) (key 0 (by omega))
theorem bits_low : ∀ m : Nat, m < 256 → m ≠ 0 → (iN (m : Int) &&& (iN (m : Int) - iN 1)) = iN ((m &&& (m - 1) : Nat) : Int) ∧ popc (m &&& (m - 1)) = popc m - 1 ∧ (m &&& (m - 1)) < m := by decide +kernel
theorem popc_0 : popc 0 = 0 := by decide +kernel
theorem r_bits {l : Launch} {E : EnvT} {d : Nat} {K : AV → Mem → Prop} {M : Mem} {m : Nat} (hd : 1 ≤ d) (hm : m < 256) (h : K (.int (iN (popc m)), 0) M) : CT l E d m_Mod_bits [(.int (iN (m : Int)), 0)] M K := by
  refine CT.of pn_Mod (Nat.le_of_ble_eq_true rfl) ?_
  have key : ∀ (f x : Nat) (k : Int), x < f → x < 256 → k + popc x = popc m → G l E d m_Mod_bits 4 [(1, (.int (iN k), 0)), (2, (.int (iN (x : Int)), 0))] [] M K := by
    intro f
    induction f with
    | zero => intro x k hx; omega
    | succ f ih =>
      intro x k hx x2 he
      refine b_Mod_bits_4 (by omega) ?_
      rw [iN_eq0 (by omega) (by omega)]
      refine ⟨fun c => ?_, fun c => ?_⟩
      · have : x = 0 := (by omega)
        subst this
        rw [popc_0] at he
        rw [show k = popc m by omega]
        exact h
      · have q := bits_low x x2 (by omega)
        rw [q.1, iN_add]
        exact ih _ _ (by omega) (by omega) (by rw [q.2.1]; omega)
  exact b_Mod_bits_0 (by omega) (key (m + 1) m 0 (by omega) hm (by omega))
theorem shl_b : ∀ b : Bool, ∀ s : Nat, s < 8 → (iN (b2i b) <<< (iN (s : Int) &&& 31)) = iN (b2i b * ((2 ^ s : Nat) : Int)) := by decide +kernel
theorem mask_sum0 : ∀ m : Nat, m < 256 → sumN (fun s => b2i (m.testBit s) * ((2 ^ s : Nat) : Int)) 8 = m := by decide +kernel
theorem mask_sum {C : Ch} (hW : WC C) {j n : Nat} (j1 : 9 ≤ j) (j2 : j ≤ 12) (hn : C 0 8 = n) : sumN (fun s => b2i (inS (C 0 j) s) * ((2 ^ s : Nat) : Int)) n = C 0 j := by
  have m := hW.1.ms j j1 j2
  have n8 := hW.1.n
  obtain ⟨x, hx⟩ : ∃ x : Nat, C 0 j = x := ⟨(C 0 j).toNat, (by omega)⟩
  have e := mask_sum0 x (by omega)
  rw [← sumN_tail (n := 8) (m := n) (by omega) (fun s s1 s2 => by rw [hW.2.2.2.2.2.2.2.2.1 j j1 j2 s (by omega)]; simp [b2i]), hx]
  exact e
theorem r_sumOf {l : Launch} {E : EnvT} {d : Nat} {K : AV → Mem → Prop} {M : Mem} {C Z : Ch} {A : Nat → Int} {w : Nat} {j : Nat} (hd : 3 ≤ d) (hB : Z 0 21 = 0) (hW : WC C) (hR : RR C A 0) (hw : (w = 3 ∧ j = 11) ∨ (w = 6 ∧ j = 12)) (h : K (.int (iN (C 0 j)), 0) (zA M Z A)) : CT l E d m_Mod_sumOf [(.ref 24, 41), (.int (iN (w : Int)), 0)] (zA M Z A) K := by
  refine CT.of pn_Mod (Nat.le_of_ble_eq_true rfl) ?_
  have hV := hW.1
  have hn := hV.n
  obtain ⟨n, hnn⟩ : ∃ n : Nat, C 0 8 = n := ⟨(C 0 8).toNat, (by omega)⟩
  rw [← mask_sum hW (j := j) (by omega) (by omega) hnn] at h
  have key : ∀ k, k ≤ n → G l E d m_Mod_sumOf 4 [(0, (.ref 24, 41)), (1, (.int (iN (w : Int)), 0)), (2, (.int (iN (sumN (fun s => b2i (inS (C 0 j) s) * ((2 ^ s : Nat) : Int)) k)), 0)), (3, (.int (iN k), 0))] [] (zA M Z A) K := by
    refine dn n ?_ (fun k hk ih => ?_)
    · refine b_Mod_sumOf_4 (by omega) ?_
      simp only [zA_1]
      rw [clA (z := 0) (j := 0 + 0) (by omega) (by omega), hR.1.1, hnn]
      exact ⟨inA (by omega) (by omega), fun _ => h, fun c => absurd ((iN_le (by omega) (by omega) (by omega) (by omega)).mpr (by omega)) c⟩
    · refine b_Mod_sumOf_4 (by omega) ?_
      simp only [zA_1]
      rw [clA (z := 0) (j := 0 + 0) (by omega) (by omega), hR.1.1, hnn, iN_eq0 (a := (w : Int)) (by omega) (by omega)]
      have rs := hR.2.1 k (by omega)
      refine ⟨inA (by omega) (by omega), fun c => absurd ((iN_le (by omega) (by omega) (by omega) (by omega)).mp c) (by omega), fun _ => ⟨fun _ => c_of (B := 0) (by omega) hB (by omega) (by omega) (by omega) ?_, fun c => absurd c (by omega)⟩⟩
      have e : A (0 + 6 + 8 * k + w) = b2i (inS (C 0 j) k) := by
        rcases hw with ⟨rfl, rfl⟩ | ⟨rfl, rfl⟩
        · exact rs.2.2.2.1
        · exact rs.2.2.2.2.2.2
      rw [e, toI_int, shl_b _ k (by omega), iN_add, iN_add]
      exact ih
  exact b_Mod_sumOf_0 (by omega) (key 0 (by omega))
theorem r_coins {l : Launch} {E : EnvT} {d : Nat} {K : AV → Mem → Prop} {M : Mem} {C Z : Ch} {A : Nat → Int} (hd : 3 ≤ d) (hB : Z 0 21 = 0) (hW : WC C) (hR : RR C A 0) (h : K (.int (iN (sumN (C 2) (C 0 8).toNat)), 0) (zA M Z A)) : CT l E d m_Mod_sumOf [(.ref 24, 41), (.int (iN 0), 0)] (zA M Z A) K := by
  refine CT.of pn_Mod (Nat.le_of_ble_eq_true rfl) ?_
  have hV := hW.1
  have hn := hV.n
  obtain ⟨n, hnn⟩ : ∃ n : Nat, C 0 8 = n := ⟨(C 0 8).toNat, (by omega)⟩
  rw [hnn, show ((n : Int)).toNat = n from rfl] at h
  have key : ∀ k, k ≤ n → G l E d m_Mod_sumOf 4 [(0, (.ref 24, 41)), (1, (.int (iN 0), 0)), (2, (.int (iN (sumN (C 2) k)), 0)), (3, (.int (iN k), 0))] [] (zA M Z A) K := by
    refine dn n ?_ (fun k hk ih => ?_)
    · refine b_Mod_sumOf_4 (by omega) ?_
      simp only [zA_1]
      rw [clA (z := 0) (j := 0 + 0) (by omega) (by omega), hR.1.1, hnn]
      exact ⟨inA (by omega) (by omega), fun _ => h, fun c => absurd ((iN_le (by omega) (by omega) (by omega) (by omega)).mpr (by omega)) c⟩
    · refine b_Mod_sumOf_4 (by omega) ?_
      simp only [zA_1]
      rw [clA (z := 0) (j := 0 + 0) (by omega) (by omega), hR.1.1, hnn]
      have rs := hR.2.1 k (by omega)
      refine ⟨inA (by omega) (by omega), fun c => absurd ((iN_le (by omega) (by omega) (by omega) (by omega)).mp c) (by omega), fun _ => ⟨fun c => absurd z00 c, fun _ => c_of (B := 0) (w := 0) (by omega) hB (by omega) (by omega) (by omega) ?_⟩⟩
      rw [rs.1, toI_int, iN_add, iN_add]
      exact ih
  exact b_Mod_sumOf_0 (by omega) (key 0 (by omega))
theorem r_livingMany {l : Launch} {E : EnvT} {d : Nat} {K : AV → Mem → Prop} {M : Mem} {C Z : Ch} {A : Nat → Int} (hd : 4 ≤ d) (hB : Z 0 21 = 0) (hW : WC C) (hR : RR C A 0) (h : K (.int (iN (manyC C)), 0) (zA M Z A)) : CT l E d m_Mod_livingMany [(.ref 24, 41)] (zA M Z A) K := by
  refine CT.of pn_Mod (Nat.le_of_ble_eq_true rfl) ?_
  have m := hW.1.ms 12 (by omega) (by omega)
  unfold manyC at h
  obtain ⟨x, hx⟩ : ∃ x : Nat, C 0 12 = x := ⟨(C 0 12).toNat, (by omega)⟩
  rw [hx, show ((x : Int)).toNat = x from rfl] at h
  refine b_Mod_livingMany_0 (by omega) ⟨inA (by omega) (by omega), r_sumOf (w := 6) (j := 12) (by omega) hB hW hR (Or.inr ⟨rfl, rfl⟩) ?_⟩
  rw [hx, toI_int]
  refine r_bits (by omega) (by omega) ?_
  rw [zA_1, clA (z := 0) (j := 0 + 0) (by omega) (by omega), hR.1.1, toI_int, iN_sub]
  exact h
theorem cnt_sum (p : Nat → Bool) : ∀ n, cntN p n = sumN (fun k => b2i (p k)) n
  | 0 => rfl
  | n + 1 => by simp only [cntN, sumN]; rw [cnt_sum p n]
theorem r_notesHeld {l : Launch} {E : EnvT} {d : Nat} {K : AV → Mem → Prop} {M : Mem} {C Z : Ch} {A : Nat → Int} (hd : 3 ≤ d) (hB : Z 0 21 = 0) (hW : WC C) (hR : RR C A 0) (h : K (.int (iN (cntN (fun i => decide (0 < C 7 i)) 48)), 0) (zA M Z A)) : CT l E d m_Mod_notesHeld [(.ref 24, 41)] (zA M Z A) K := by
  refine CT.of pn_Mod (Nat.le_of_ble_eq_true rfl) ?_
  have hV := hW.1
  have hn := hV.n
  obtain ⟨n, hnn⟩ : ∃ n : Nat, C 0 8 = n := ⟨(C 0 8).toNat, (by omega)⟩
  have e : cntN (fun i => decide (0 < C 7 i)) 48 = sumN (fun s => sumN (fun k => b2i (decide (0 < C 7 (6 * s + k)))) (C 4 s).toNat) n := by
    rw [cnt_sum, sumN_tail (n := 48) (m := 6 * n) (by omega) (fun i i1 i2 => ?_), sumN_six (fun i => b2i (decide (0 < C 7 i)))]
    · refine sumN_congr (fun s hs => ?_)
      have le := hV.le s (by omega)
      refine sumN_tail (by omega) (fun k k1 k2 => ?_)
      by_cases c : C 6 (6 * s + k) = -1
      · rw [(hW.2.1 (6 * s + k) (by omega)).mp c]; rfl
      · have w2 := (hW.2.2.1 (6 * s + k) (by omega) c).2.1
        rw [show (6 * s + k) / 6 = s by omega, show (6 * s + k) % 6 = k by omega] at w2
        omega
    · by_cases c : C 6 i = -1
      · rw [(hW.2.1 i i2).mp c]; rfl
      · have := (hW.2.2.1 i i2 c).1
        omega
  rw [e] at h
  have key : ∀ s, s ≤ n → G l E d m_Mod_notesHeld 4 [(0, (.ref 24, 41)), (1, (.int (iN (sumN (fun s => sumN (fun k => b2i (decide (0 < C 7 (6 * s + k)))) (C 4 s).toNat) s)), 0)), (2, (.int (iN s), 0))] [] (zA M Z A) K := by
    refine dn n ?_ (fun s hs ih => ?_)
    · refine b_Mod_notesHeld_4 (by omega) ?_
      simp only [zA_1]
      rw [clA (z := 0) (j := 0 + 0) (by omega) (by omega), hR.1.1, hnn]
      exact ⟨inA (by omega) (by omega), fun _ => h, fun c => absurd ((iN_le (by omega) (by omega) (by omega) (by omega)).mpr (by omega)) c⟩
    · have le := hV.le s (by omega)
      obtain ⟨q, hq⟩ : ∃ q : Nat, C 4 s = q := ⟨(C 4 s).toNat, (by omega)⟩
      have rs := hR.2.1 s (by omega)
      have e2 : sumN (fun s => sumN (fun k => b2i (decide (0 < C 7 (6 * s + k)))) (C 4 s).toNat) (s + 1) = sumN (fun s => sumN (fun k => b2i (decide (0 < C 7 (6 * s + k)))) (C 4 s).toNat) s + sumN (fun k => b2i (decide (0 < C 7 (6 * s + k)))) q := by
        show _ + sumN (fun k => b2i (decide (0 < C 7 (6 * s + k)))) (C 4 s).toNat = _
        rw [hq]; rfl
      rw [e2] at ih
      generalize sumN (fun s => sumN (fun k => b2i (decide (0 < C 7 (6 * s + k)))) (C 4 s).toNat) s = S at ih
      have inner : ∀ k, k ≤ q → G l E d m_Mod_notesHeld 16 [(0, (.ref 24, 41)), (1, (.int (iN (S + sumN (fun k => b2i (decide (0 < C 7 (6 * s + k)))) k)), 0)), (2, (.int (iN s), 0)), (3, (.int (iN k), 0))] [] (zA M Z A) K := by
        refine dn q ?_ (fun k hk ih2 => ?_)
        · refine b_Mod_notesHeld_16 (by omega) (c_of (B := 0) (w := 1) (by omega) hB (by omega) (by omega) (by omega) ?_)
          rw [rs.2.1, hq, toI_int, iN_add]
          exact ⟨fun _ => ih, fun c => absurd ((iN_le (by omega) (by omega) (by omega) (by omega)).mpr (by omega)) c⟩
        · have hh := hR.2.2.2.1 (6 * s + k) (by omega)
          have ho := hV.ho (6 * s + k) (by omega)
          have de := hV.de (6 * s + k) (by omega)
          have w1 := hW.2.1 (6 * s + k) (by omega)
          refine b_Mod_notesHeld_16 (by omega) (c_of (B := 0) (w := 1) (by omega) hB (by omega) (by omega) (by omega) ?_)
          rw [rs.2.1, hq, toI_int]
          refine ⟨fun c => absurd ((iN_le (by omega) (by omega) (by omega) (by omega)).mp c) (by omega), fun _ => c_holderOf (B := 0) (by omega) hB (by omega) (by omega) (by omega) ?_⟩
          simp only [sumN] at ih2
          rw [hh.1, toI_int, iN_eq (by omega) (by omega) (by omega) (by omega), iN_add, iN_add, iN_add]
          refine ⟨fun c => ?_, fun c => ?_⟩
          · rw [decide_eq_true (show 0 < C 7 (6 * s + k) by omega), show b2i true = 1 from rfl, ← Int.add_assoc] at ih2
            exact ih2
          · rw [decide_eq_false (show ¬ 0 < C 7 (6 * s + k) by omega), show b2i false = 0 from rfl, ← Int.add_assoc] at ih2
            exact ih2
      refine b_Mod_notesHeld_4 (by omega) ?_
      simp only [zA_1]
      rw [clA (z := 0) (j := 0 + 0) (by omega) (by omega), hR.1.1, hnn]
      have i0 := inner 0 (by omega)
      rw [show S + sumN (fun k => b2i (decide (0 < C 7 (6 * s + k)))) 0 = S by simp [sumN]] at i0
      exact ⟨inA (by omega) (by omega), fun c => absurd ((iN_le (by omega) (by omega) (by omega) (by omega)).mp c) (by omega), fun _ => i0⟩
  exact b_Mod_notesHeld_0 (by omega) (key 0 (by omega))
