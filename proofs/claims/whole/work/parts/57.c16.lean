def exF (p : Nat → Bool) : Nat → Nat → Bool
  | _, 0 => false
  | i, m + 1 => p i || exF p (i + 1) m
def eachP (A : Nat → Int) (x s : Nat) : Bool := !x.testBit s && (nAnd (A s).toNat x != 0)
def eachB (A : Nat → Int) (n x : Nat) : Bool := !exF (eachP A x) 0 n
theorem c_isInEach {l : Launch} {E : EnvT} {d : Nat} {K : AV → Mem → Prop} {M : Mem} {n x : Nat} (hd : 2 ≤ d) (hn : M 12 0 6 = n) (n8 : n ≤ 8) (x2 : x < 256) (hA : ∀ s, s < n → 0 ≤ M 12 3 s ∧ M 12 3 s < 256) (h : K (.int (iN (b2i (eachB (M 12 3) n x))), 0) M) : CT l E d m_Ties_isInEach [(.ref 12, 30), (.int (iN x), 0)] M K := by
  refine CT.of pn_Ties (Nat.le_of_ble_eq_true rfl) ?_
  refine b_Ties_isInEach_0 (by omega) ?_
  have key : ∀ k : Nat, k ≤ n → (eachB (M 12 3) n x = !exF (eachP (M 12 3) x) k (n - k)) → G l E d m_Ties_isInEach 2 [(0, (.ref 12, 30)), (1, (.int (iN x), 0)), (2, (.int (iN k), 0))] [] M K := by
    refine dn n (fun he => ?_) (fun k hk ih he => ?_)
    · refine b_Ties_isInEach_2 (by omega) ⟨fun _ => ⟨o01, ?_⟩, fun c => absurd ?_ c⟩
      · rw [he, Nat.sub_self] at h; exact h
      · rw [hn]; exact (iN_le (by omega) (by omega) (by omega) (by omega)).mpr (by omega)
    · have a1 := hA k hk
      rw [show n - k = (n - (k + 1)) + 1 by omega] at he
      generalize eachB (M 12 3) n x = lhs at h he ih
      unfold exF at he
      refine b_Ties_isInEach_2 (by omega) ⟨fun c => absurd c ?_, fun _ => c_isIn (by omega) (by omega) (by omega) (s := k) (by omega) ?_⟩
      · rw [hn, iN_le (by omega) (by omega) (by omega) (by omega)]; omega
      · rw [toI_int, b2i_z, inS_nat]
        refine ⟨fun c => ?_, fun c => ⟨iN_in (by omega) (by omega) (by omega), ?_⟩⟩
        · rw [Bool.not_eq_false] at c
          rw [iN_add]
          refine ih ?_
          rw [he]
          unfold eachP
          rw [c]
          simp
        · obtain ⟨y, hy⟩ : ∃ y : Nat, M 12 3 k = y := ⟨(M 12 3 k).toNat, (by omega)⟩
          rw [iN_clN (by omega), hy, and_not y (by omega) x x2, iN_eq0 (by omega) (by have := nAnd_lt x (show y < 256 by omega); omega)]
          have ep : eachP (M 12 3) x k = (nAnd y x != 0) := by
            unfold eachP
            rw [c, hy]
            simp
          refine ⟨fun c2 => ?_, fun c2 => ⟨z01, ?_⟩⟩
          · rw [iN_add]
            refine ih ?_
            rw [he, ep]
            have : nAnd y x = 0 := (by omega)
            rw [this]
            simp
          · rw [he, ep] at h
            have : (nAnd y x != 0) = true := by
              rw [bne_iff_ne]; omega
            rw [this] at h
            exact h
  exact key 0 (by omega) rfl
def laF (A : Nat → Int) (n : Nat) : Nat → Nat → Nat
  | 0, b => b
  | m + 1, b => if decide (popc m ≤ popc b) && eachB A n m then laF A n m m else laF A n m b
theorem c_leastAsked {l : Launch} {E : EnvT} {d : Nat} {K : AV → Mem → Prop} {M : Mem} {n : Nat} (hd : 3 ≤ d) (hn : M 12 0 6 = n) (n8 : n ≤ 8) (hA : ∀ s, s < n → 0 ≤ M 12 3 s ∧ M 12 3 s < 256) (h : K (.int (iN (laF (M 12 3) n (2 ^ n - 1) (2 ^ n - 1) : Nat)), 0) M) : CT l E d m_Ties_leastAsked [(.ref 12, 30)] M K := by
  refine CT.of pn_Ties (Nat.le_of_ble_eq_true rfl) ?_
  refine b_Ties_leastAsked_0 (by omega) ?_
  have key : ∀ m : Nat, m < 256 → ∀ b : Nat, b < 256 → K (.int (iN (laF (M 12 3) n m b : Nat)), 0) M → G l E d m_Ties_leastAsked 13 [(0, (.ref 12, 30)), (1, (.int (iN b), 0)), (2, (.int (iN ((m : Int) - 1)), 0))] [] M K := by
    intro m
    induction m with
    | zero =>
      intro _ b hb hk
      refine b_Ties_leastAsked_13 (by omega) ⟨fun _ => hk, fun c => absurd ?_ c⟩
      rw [iN_lt0 (by omega) (by omega)]; omega
    | succ m ih =>
      intro hm b hb hk
      have p1 := popc_lo m
      have p2 := popc_hi m
      have p3 := popc_lo b
      have p4 := popc_hi b
      rw [show ((m + 1 : Nat) : Int) - 1 = (m : Int) by push_cast; omega]
      unfold laF at hk
      refine b_Ties_leastAsked_13 (by omega) ⟨fun c => absurd c ?_, fun _ => c_bitCount (m := m) (by omega) (by omega) (by omega) (c_bitCount (m := b) (by omega) (by omega) (by omega) ?_)⟩
      · rw [iN_lt0 (by omega) (by omega)]; omega
      · rw [toI_int, toI_int, show ((m : Int)).toNat = m from rfl, show ((b : Int)).toNat = b from rfl, iN_lt (by omega) (by omega) (by omega) (by omega), iN_add, show (m : Int) + -1 = m - 1 by omega]
        refine ⟨fun c => ih (by omega) b hb ?_, fun c => c_isInEach (by omega) hn n8 (x := m) (by omega) hA ?_⟩
        · rw [decide_eq_false (by omega), Bool.false_and, if_neg (by simp)] at hk
          exact hk
        · rw [decide_eq_true (by omega), Bool.true_and] at hk
          rw [toI_int, b2i_z]
          refine ⟨fun c2 => ih (by omega) b hb ?_, fun c2 => ih (by omega) m (by omega) ?_⟩
          · rw [c2, if_neg (by simp)] at hk; exact hk
          · rw [Bool.not_eq_false] at c2
            rw [c2, if_pos rfl] at hk; exact hk
  have o1 := ones_lt n8
  rw [hn, ones_n n (by omega), iN_sub]
  exact key _ o1 _ o1 h
def rchR (A : Nat → Int) : Nat → Nat → Nat → Nat
  | _, 0, x => x
  | s, m + 1, x => rchR A (s + 1) m (if x.testBit s then x ||| (A s).toNat else x)
def rchT (A : Nat → Int) (n : Nat) : Nat → Nat → Nat
  | 0, x => x
  | t + 1, x => rchT A n t (rchR A 0 n x)
theorem rchR_lt {A : Nat → Int} {n : Nat} (hA : ∀ s, s < n → 0 ≤ A s ∧ A s < 256) : ∀ (m s x : Nat), s + m ≤ n → x < 256 → rchR A s m x < 256
  | 0, _, _, _, h => h
  | m + 1, s, x, h1, h => by
    unfold rchR
    refine rchR_lt hA m (s + 1) _ (by omega) ?_
    have := hA s (by omega)
    split
    · exact or_lt h (by omega)
    · exact h
theorem c_reachedFrom {l : Launch} {E : EnvT} {d : Nat} {K : AV → Mem → Prop} {M : Mem} {n a : Nat} (hd : 2 ≤ d) (hn : M 12 0 6 = n) (n8 : n ≤ 8) (ha : a < 8) (hA : ∀ s, s < n → 0 ≤ M 12 2 s ∧ M 12 2 s < 256) (h : K (.int (iN (clrN (rchT (M 12 2) n n (2 ^ a)) a : Nat)), 0) M) : CT l E d m_Ties_reachedFrom [(.ref 12, 30), (.int (iN a), 0)] M K := by
  refine CT.of pn_Ties (Nat.le_of_ble_eq_true rfl) ?_
  refine b_Ties_reachedFrom_0 (by omega) ?_
  rw [one_bit a ha]
  have outer : ∀ t : Nat, t ≤ n → ∀ x : Nat, x < 256 → rchT (M 12 2) n (n - t) x = rchT (M 12 2) n n (2 ^ a) → G l E d m_Ties_reachedFrom 6 [(0, (.ref 12, 30)), (1, (.int (iN a), 0)), (2, (.int (iN x), 0)), (3, (.int (iN t), 0))] [] M K := by
    refine dn n (fun x hx he => ?_) (fun t ht ih x hx he => ?_)
    · refine b_Ties_reachedFrom_6 (by omega) ⟨fun _ => ?_, fun c => absurd ?_ c⟩
      · rw [clr_bit (by omega) (by omega) ha, clrB_nat]
        rw [Nat.sub_self] at he
        rw [← he] at h
        exact h
      · rw [hn]; exact (iN_le (by omega) (by omega) (by omega) (by omega)).mpr (by omega)
    · refine b_Ties_reachedFrom_6 (by omega) ⟨fun c => absurd c ?_, fun _ => ?_⟩
      · rw [hn, iN_le (by omega) (by omega) (by omega) (by omega)]; omega
      · rw [show n - t = (n - (t + 1)) + 1 by omega] at he
        have he : rchT (M 12 2) n (n - (t + 1)) (rchR (M 12 2) 0 n x) = rchT (M 12 2) n n (2 ^ a) := he
        have inner : ∀ s : Nat, s ≤ n → ∀ y : Nat, y < 256 → rchR (M 12 2) s (n - s) y = rchR (M 12 2) 0 n x → G l E d m_Ties_reachedFrom 17 [(0, (.ref 12, 30)), (1, (.int (iN a), 0)), (2, (.int (iN y), 0)), (3, (.int (iN t), 0)), (4, (.int (iN s), 0))] [] M K := by
          refine dn n (fun y hy hr => ?_) (fun s hs ih2 y hy hr => ?_)
          · refine b_Ties_reachedFrom_17 (by omega) ⟨fun _ => ?_, fun c => absurd ?_ c⟩
            · rw [Nat.sub_self] at hr
              have hr : y = rchR (M 12 2) 0 n x := hr
              rw [iN_add]
              rw [← hr] at he
              exact ih y hy he
            · rw [hn]; exact (iN_le (by omega) (by omega) (by omega) (by omega)).mpr (by omega)
          · rw [show n - s = (n - (s + 1)) + 1 by omega] at hr
            have hr : rchR (M 12 2) (s + 1) (n - (s + 1)) (if y.testBit s then y ||| (M 12 2 s).toNat else y) = rchR (M 12 2) 0 n x := hr
            have a1 := hA s hs
            refine b_Ties_reachedFrom_17 (by omega) ⟨fun c => absurd c ?_, fun _ => c_isIn (by omega) (by omega) (by omega) (s := s) (by omega) ?_⟩
            · rw [hn, iN_le (by omega) (by omega) (by omega) (by omega)]; omega
            · rw [toI_int, b2i_z, inS_nat, iN_add]
              refine ⟨fun c => ih2 y hy ?_, fun c => ⟨iN_in (by omega) (by omega) (by omega), ?_⟩⟩
              · rw [c, if_neg (by simp)] at hr; exact hr
              · rw [Bool.not_eq_false] at c
                rw [c, if_pos rfl] at hr
                obtain ⟨z, hz⟩ : ∃ z : Nat, M 12 2 s = z := ⟨(M 12 2 s).toNat, (by omega)⟩
                rw [hz, show ((z : Int)).toNat = z from rfl] at hr
                rw [iN_clN (by omega), hz, or_two y hy z (by omega)]
                exact ih2 _ (or_lt hy (by omega)) hr
        exact inner 0 (by omega) x hx rfl
  exact outer 0 (by omega) _ (pow_lt ha) rfl
