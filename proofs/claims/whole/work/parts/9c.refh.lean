theorem popc_sub : ∀ x : Nat, x < 256 → ∀ y : Nat, y < 256 → x &&& y = x → x ≠ y → popc x < popc y := by decide +kernel
theorem popc_n : ∀ n : Nat, n < 9 → ∀ x : Nat, x < 256 → x < 2 ^ n → popc x ≤ n := by decide +kernel
theorem popc_1 : ∀ a : Nat, a < 8 → popc (2 ^ a) = 1 := by decide +kernel
theorem clr_or : ∀ x : Nat, x < 256 → ∀ a : Nat, a < 8 → clrN (x ||| 2 ^ a) a = clrN x a := by decide +kernel
theorem rchR_sub (A : Nat → Int) : ∀ (m s x : Nat), x &&& rchR A s m x = x
  | 0, _, x => Nat.and_self x
  | m + 1, s, x => by
    show x &&& rchR A (s + 1) m (if x.testBit s then x ||| (A s).toNat else x) = x
    split
    · have ih := rchR_sub A m (s + 1) (x ||| (A s).toNat)
      have e : x &&& (x ||| (A s).toNat) = x := by
        apply Nat.eq_of_testBit_eq
        intro i
        rw [Nat.testBit_and, Nat.testBit_or]
        cases x.testBit i <;> simp
      have : x &&& rchR A (s + 1) m (x ||| (A s).toNat) = x &&& ((x ||| (A s).toNat) &&& rchR A (s + 1) m (x ||| (A s).toNat)) := by
        rw [← Nat.and_assoc, e]
      rw [this, ih, e]
    · exact rchR_sub A m (s + 1) x
theorem rchR_pow {A : Nat → Int} {n : Nat} (hA : ∀ s, s < n → (A s).toNat < 2 ^ n) : ∀ (m s x : Nat), s + m ≤ n → x < 2 ^ n → rchR A s m x < 2 ^ n
  | 0, _, _, _, h => h
  | m + 1, s, x, h1, h => by
    show rchR A (s + 1) m (if x.testBit s then x ||| (A s).toNat else x) < 2 ^ n
    refine rchR_pow hA m (s + 1) _ (by omega) ?_
    split
    · exact Nat.or_lt_two_pow h (hA s (by omega))
    · exact h
theorem rchT_fix {A : Nat → Int} {n x : Nat} (h : rchR A 0 n x = x) : ∀ m, rchT A n m x = x
  | 0 => rfl
  | m + 1 => by
    show rchT A n m (rchR A 0 n x) = x
    rw [h]
    exact rchT_fix h m
theorem rchT_add (A : Nat → Int) (n : Nat) : ∀ (m j x : Nat), rchT A n (m + j) x = rchT A n j (rchT A n m x)
  | 0, j, x => by rw [Nat.zero_add]; rfl
  | m + 1, j, x => by
    rw [show m + 1 + j = (m + j) + 1 by omega]
    show rchT A n (m + j) (rchR A 0 n x) = rchT A n j (rchT A n m (rchR A 0 n x))
    exact rchT_add A n m j _
theorem rchT_stab {A : Nat → Int} {n : Nat} (n8 : n ≤ 8) (hA : ∀ s, s < n → (A s).toNat < 2 ^ n) : ∀ (k x : Nat), x < 2 ^ n → (n : Int) < popc x + k → rchR A 0 n (rchT A n k x) = rchT A n k x
  | 0, x, h1, h2 => by
    have p8 := pow_lt8 n8
    have := popc_n n (by omega) x (by omega) h1
    omega
  | k + 1, x, h1, h2 => by
    have p8 := pow_lt8 n8
    show rchR A 0 n (rchT A n k (rchR A 0 n x)) = rchT A n k (rchR A 0 n x)
    by_cases e : rchR A 0 n x = x
    · rw [e, rchT_fix e, e]
    · have l := rchR_pow hA n 0 x (by omega) h1
      have := popc_sub x (by omega) (rchR A 0 n x) (by omega) (rchR_sub A n 0 x) (fun q => e q.symm)
      exact rchT_stab n8 hA k _ l (by push_cast at h2; omega)
theorem msk_pow (p : Nat → Bool) (n : Nat) : msk p n < 2 ^ n := by
  induction n with
  | zero => show 0 < 1; omega
  | succ n ih =>
    show (if p n then msk p n ||| 2 ^ n else msk p n) < 2 ^ (n + 1)
    have e : 2 ^ (n + 1) = 2 * 2 ^ n := by rw [Nat.pow_succ]; omega
    split
    · exact Nat.or_lt_two_pow (by omega) (by omega)
    · omega
theorem rchT_8 {A : Nat → Int} {n a : Nat} (n8 : n ≤ 8) (ha : a < n) (hA : ∀ s, s < n → (A s).toNat < 2 ^ n) : rchT A n 8 (2 ^ a) = rchT A n n (2 ^ a) := by
  have st := rchT_stab n8 hA n (2 ^ a) (Nat.pow_lt_pow_right (a := 2) (by decide) ha) (by rw [popc_1 a (by omega)]; omega)
  rw [show 8 = n + (8 - n) by omega, rchT_add, rchT_fix st]
theorem or_a {x a s : Nat} (hx : x < 256) (ha : a < 8) (hs : s < 8) : (x ||| 2 ^ a).testBit s = true ↔ (s = a ∨ x.testBit s = true) := by
  rw [setB_in0 x hx a ha s hs, Bool.or_eq_true, decide_eq_true_eq]
  exact Or.comm
theorem r_behind {l : Launch} {E : EnvT} {d : Nat} {K : AV → Mem → Prop} {M : Mem} {C Z : Ch} {A : Nat → Int} {n : Nat} {a : Int} (hd : 6 ≤ d) (hB : Z 0 21 = 0) (hV : VB C) (hR : RR C A 0) (hn : C 0 8 = n) (a1 : -2147483648 ≤ a) (a2 : a < 2147483648) (h1 : livesB C a = false → K (.int (iN (-1)), 0) (zA M (sZ Z 1) A)) {T : Ch} (hT : LK T C n) (hy : livesB C a = true → K (.int (iN (clrN (rchT (T 2) n n (2 ^ a.toNat)) a.toNat : Nat)), 0) (zA M (sZ Z 0) A)) : CT l E d m_Mod_behind [(.ref 24, 41), (.int (iN a), 0)] (zA M Z A) K := by
  refine CT.of pn_Mod (Nat.le_of_ble_eq_true rfl) ?_
  have hnn := hV.n
  have n8 : n ≤ 8 := (by omega)
  refine b_Mod_behind_0 (by omega) (r_isLiving (by omega) hB hV hR a1 a2 ?_)
  rw [toI_int, b2i_z]
  refine ⟨fun c => ?_, fun c => r_refuse (by omega) (by omega) (by omega) (h1 c)⟩
  rw [Bool.not_eq_false] at c
  have hy := hy c
  have t := livesB_spec c
  obtain ⟨v, rfl⟩ : ∃ v : Nat, a = v := ⟨a.toNat, (by omega)⟩
  rw [show ((v : Int)).toNat = v from rfl] at hy
  have v8 : v < 8 := (by omega)
  have hA : ∀ s, s < n → (T 2 s).toNat < 2 ^ n := fun s hs => by
    rw [(hT.2.2 s hs).2.1]
    exact msk_pow _ n
  have hA2 : ∀ s, s < n → (T 2 s).toNat = msk (lkN C s) n := fun s hs => by rw [(hT.2.2 s hs).2.1]; rfl
  rw [← rchT_8 n8 (by omega) hA] at hy
  have top : ∀ (f k x : Nat), k + f = 8 → x < 256 → rchT (T 2) n f (x ||| 2 ^ v) = rchT (T 2) n 8 (2 ^ v) → G l E d m_Mod_behind 18 [(0, (.ref 24, 41)), (1, (.int (iN (v : Int)), 0)), (2, (.int (iN (x : Int)), 0)), (3, (.int (iN (k : Int)), 0))] [] (zA M Z A) K := by
    intro f
    induction f with
    | zero =>
      intro k x e1 hx e2
      refine b_Mod_behind_18 (by omega) ⟨fun _ => r_gives (by omega) ?_, fun c => absurd ((iN_le (by omega) (by omega) (by omega) (by omega)).mpr (by omega)) c⟩
      have e2 : x ||| 2 ^ v = _ := e2
      rw [← e2, clr_or x hx v v8] at hy
      rw [clr_bit (by omega) (by omega) v8, clrB_nat]
      exact hy
    | succ f ih =>
      intro k x e1 hx e2
      refine b_Mod_behind_18 (by omega) ⟨fun c => absurd ((iN_le (by omega) (by omega) (by omega) (by omega)).mp c) (by omega), fun _ => ?_⟩
      have e2 : rchT (T 2) n f (rchR (T 2) 0 n (x ||| 2 ^ v)) = _ := e2
      have mid : ∀ (g s x' : Nat), s + g = n → x' < 256 → rchR (T 2) s g (x' ||| 2 ^ v) = rchR (T 2) 0 n (x ||| 2 ^ v) → G l E d m_Mod_behind 27 [(0, (.ref 24, 41)), (1, (.int (iN (v : Int)), 0)), (2, (.int (iN (x' : Int)), 0)), (3, (.int (iN (k : Int)), 0)), (4, (.int (iN (s : Int)), 0))] [] (zA M Z A) K := by
        intro g
        induction g with
        | zero =>
          intro s x' g1 hx' g2
          have g2 : x' ||| 2 ^ v = _ := g2
          refine b_Mod_behind_27 (by omega) ?_
          simp only [zA_1, iN_add]
          rw [clA (z := 0) (j := 0 + 0) (by omega) (by omega), hR.1.1, hn]
          refine ⟨inA (by omega) (by omega), fun _ => ih (k + 1) x' (by omega) hx' ?_, fun c => absurd ((iN_le (by omega) (by omega) (by omega) (by omega)).mpr (by omega)) c⟩
          rw [g2]; exact e2
        | succ g ihg =>
          intro s x' g1 hx' g2
          have g2 : rchR (T 2) (s + 1) g (if (x' ||| 2 ^ v).testBit s then (x' ||| 2 ^ v) ||| (T 2 s).toNat else (x' ||| 2 ^ v)) = _ := g2
          refine b_Mod_behind_27 (by omega) ?_
          simp only [zA_1]
          rw [clA (z := 0) (j := 0 + 0) (by omega) (by omega), hR.1.1, hn]
          refine ⟨inA (by omega) (by omega), fun c => absurd ((iN_le (by omega) (by omega) (by omega) (by omega)).mp c) (by omega), fun _ => ?_⟩
          by_cases on : (x' ||| 2 ^ v).testBit s = true
          · rw [if_pos on, hA2 s (by omega)] at g2
            have low : ∀ (e t w : Nat), t + e = n → w < 256 → w ||| 2 ^ v = (x' ||| 2 ^ v) ||| msk (lkN C s) t → G l E d m_Mod_behind 41 [(0, (.ref 24, 41)), (1, (.int (iN (v : Int)), 0)), (2, (.int (iN (w : Int)), 0)), (3, (.int (iN (k : Int)), 0)), (4, (.int (iN (s : Int)), 0)), (5, (.int (iN (t : Int)), 0))] [] (zA M Z A) K := by
              intro e
              induction e with
              | zero =>
                intro t w q1 hw q2
                have : t = n := (by omega)
                subst this
                refine b_Mod_behind_41 (by omega) ?_
                simp only [zA_1, iN_add]
                rw [clA (z := 0) (j := 0 + 0) (by omega) (by omega), hR.1.1, hn]
                refine ⟨inA (by omega) (by omega), fun _ => ihg (s + 1) w (by omega) hw ?_, fun c => absurd ((iN_le (by omega) (by omega) (by omega) (by omega)).mpr (by omega)) c⟩
                rw [q2]; exact g2
              | succ e ihe =>
                intro t w q1 hw q2
                have ml : msk (lkN C s) (t + 1) = if lkN C s t then msk (lkN C s) t ||| 2 ^ t else msk (lkN C s) t := rfl
                have skip : lkN C s t = false → G l E d m_Mod_behind 41 [(0, (.ref 24, 41)), (1, (.int (iN (v : Int)), 0)), (2, (.int (iN (w : Int)), 0)), (3, (.int (iN (k : Int)), 0)), (4, (.int (iN (s : Int)), 0)), (5, (.int (iN ((t : Int) + 1)), 0))] [] (zA M Z A) K := by
                  intro c
                  refine ihe (t + 1) w (by omega) hw ?_
                  rw [ml, c, if_neg (by simp)]; exact q2
                have take : lkN C s t = true → G l E d m_Mod_behind 41 [(0, (.ref 24, 41)), (1, (.int (iN (v : Int)), 0)), (2, (.int (iN (w : Int) ||| (iN 1 <<< (iN (t : Int) &&& 31))), 0)), (3, (.int (iN (k : Int)), 0)), (4, (.int (iN (s : Int)), 0)), (5, (.int (iN ((t : Int) + 1)), 0))] [] (zA M Z A) K := by
                  intro c
                  rw [or_bit (by omega) (by omega) (by omega), setB_nat]
                  refine ihe (t + 1) _ (by omega) (or_lt hw (pow_lt (by omega))) ?_
                  rw [ml, c, if_pos rfl, Nat.or_assoc, Nat.or_comm (2 ^ t), ← Nat.or_assoc, q2, Nat.or_assoc (x' ||| 2 ^ v)]
                have sb : s = v ∨ w.testBit s = true := by
                  rw [← or_a hw v8 (by omega), q2, Nat.testBit_or, on, Bool.true_or]
                have dr := debtC_rng hV (s : Int) (b := t) (by omega)
                have look : ¬ s = t → CT l E (d - 1) m_Mod_noted [(.ref 24, 41), (.int (iN (s : Int)), 0), (.int (iN (t : Int)), 0)] (zA M Z A) (fun v1 M1 => (((toI v1) ≤ 0 → G l E d m_Mod_behind 41 [(0, (.ref 24, 41)), (1, (.int (iN (v : Int)), 0)), (2, (.int (iN (w : Int)), 0)), (3, (.int (iN (k : Int)), 0)), (4, (.int (iN (s : Int)), 0)), (5, (.int (iN ((t : Int) + 1)), 0))] [] M1 K) ∧ (¬ (toI v1) ≤ 0 → G l E d m_Mod_behind 41 [(0, (.ref 24, 41)), (1, (.int (iN (v : Int)), 0)), (2, (.int (iN (w : Int) ||| (iN 1 <<< (iN (t : Int) &&& 31))), 0)), (3, (.int (iN (k : Int)), 0)), (4, (.int (iN (s : Int)), 0)), (5, (.int (iN ((t : Int) + 1)), 0))] [] M1 K))) := by
                  intro ne
                  refine c_noted (B := 0) (x := (s : Int)) (s := t) (by omega) hB (by omega) hV hR (by omega) (by omega) (by omega) ?_
                  rw [toI_int, iN_le0 (by omega) (by omega)]
                  refine ⟨fun c => skip ?_, fun c => take ?_⟩
                  · unfold lkN; rw [decide_eq_false (p := 0 < debtC C s t) (by omega), Bool.and_false]
                  · unfold lkN; rw [decide_eq_true ne, decide_eq_true (p := 0 < debtC C s t) (by omega)]; rfl
                have same : s = t → lkN C s t = false := fun c => by unfold lkN; rw [decide_eq_false (by omega), Bool.false_and]
                refine b_Mod_behind_41 (by omega) ?_
                simp only [zA_1, iN_add]
                rw [clA (z := 0) (j := 0 + 0) (by omega) (by omega), hR.1.1, hn, iN_eq (a := (s : Int)) (b := (v : Int)) (by omega) (by omega) (by omega) (by omega), iN_eq (a := (s : Int)) (b := (t : Int)) (by omega) (by omega) (by omega) (by omega)]
                refine ⟨inA (by omega) (by omega), fun c => absurd ((iN_le (by omega) (by omega) (by omega) (by omega)).mp c) (by omega), fun _ => ⟨fun _ => ⟨fun c => skip (same (by omega)), fun c => look (by omega)⟩, fun c2 => r_isIn (by omega) hw (by omega) ?_⟩⟩
                rw [toI_int, b2i_z]
                refine ⟨fun c3 => ?_, fun _ => ⟨fun c => skip (same (by omega)), fun c => look (by omega)⟩⟩
                rcases sb with q | q
                · omega
                · rw [c3] at q; cases q
            exact low n 0 x' (by omega) hx' (by show _ = (x' ||| 2 ^ v) ||| 0; rw [Nat.or_zero])
          · rw [if_neg on] at g2
            have no : ¬ (s = v ∨ x'.testBit s = true) := by rw [← or_a hx' v8 (by omega)]; exact on
            have low : ∀ (e t : Nat), t + e = n → G l E d m_Mod_behind 41 [(0, (.ref 24, 41)), (1, (.int (iN (v : Int)), 0)), (2, (.int (iN (x' : Int)), 0)), (3, (.int (iN (k : Int)), 0)), (4, (.int (iN (s : Int)), 0)), (5, (.int (iN (t : Int)), 0))] [] (zA M Z A) K := by
              intro e
              induction e with
              | zero =>
                intro t q1
                refine b_Mod_behind_41 (by omega) ?_
                simp only [zA_1, iN_add]
                rw [clA (z := 0) (j := 0 + 0) (by omega) (by omega), hR.1.1, hn]
                exact ⟨inA (by omega) (by omega), fun _ => ihg (s + 1) x' (by omega) hx' g2, fun c => absurd ((iN_le (by omega) (by omega) (by omega) (by omega)).mpr (by omega)) c⟩
              | succ e ihe =>
                intro t q1
                refine b_Mod_behind_41 (by omega) ?_
                simp only [zA_1, iN_add]
                rw [clA (z := 0) (j := 0 + 0) (by omega) (by omega), hR.1.1, hn, iN_eq (a := (s : Int)) (b := (v : Int)) (by omega) (by omega) (by omega) (by omega)]
                refine ⟨inA (by omega) (by omega), fun c => absurd ((iN_le (by omega) (by omega) (by omega) (by omega)).mp c) (by omega), fun _ => ⟨fun c2 => absurd (Or.inl (by omega)) no, fun c2 => r_isIn (by omega) hx' (by omega) ?_⟩⟩
                rw [toI_int, b2i_z]
                exact ⟨fun _ => ihe (t + 1) (by omega), fun c3 => absurd (Or.inr (by simpa using c3)) no⟩
            exact low n 0 (by omega)
      exact mid n 0 x (by omega) hx rfl
  exact top 8 0 0 (by omega) (by omega) (by rw [Nat.zero_or])
