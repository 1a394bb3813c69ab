def updN (B : Nat → Nat) (k v : Nat) : Nat → Nat := fun j => if j = k then v else B j
def lnS (x nx : Nat) : Nat → Nat → (Nat → Nat) → (Nat → Nat)
  | _, 0, B => B
  | s, m + 1, B => lnS x nx (s + 1) m (if nx.testBit s then updN B (x ||| 2 ^ s) (B (x ||| 2 ^ s) ||| 2 ^ s) else B)
def lnL (A : Nat → Int) (n x : Nat) : Nat → Nat → (Nat → Nat) → (Nat → Nat)
  | _, 0, B => B
  | s, m + 1, B => lnL A n x (s + 1) m (if (B x).testBit s then lnS x (nAnd (A s).toNat x) 0 n B else B)
def BT (T : Ch) (B : Nat → Nat) : Prop := ∀ y, y < 256 → T 6 y = (B y : Nat) ∧ B y < 256
theorem BT_upd {T : Ch} {B : Nat → Nat} {k v : Nat} (h : BT T B) (hv : v < 256) : BT (upd2 T 6 k (v : Nat)) (updN B k v) := by
  intro y hy
  unfold updN
  by_cases e : y = k
  · subst e
    rw [upd2_same, if_pos rfl]
    exact ⟨rfl, hv⟩
  · rw [upd2_k _ _ e, if_neg e]
    exact h y hy
theorem c_lengthen {l : Launch} {E : EnvT} {d : Nat} {K : AV → Mem → Prop} {M : Mem} {T : Ch} {B : Nat → Nat} {n x : Nat} (hd : 2 ≤ d) (hn : T 0 6 = n) (n8 : n ≤ 8) (x2 : x < 256) (hA : ∀ s, s < n → 0 ≤ T 2 s ∧ T 2 s < 256) (hB : BT T B) (h : ∀ T' : Ch, (∀ c, c ≤ 3 → T' c = T c) → BT T' (lnL (T 2) n x 0 n B) → K (.null, 0) (setR M 12 T')) : CT l E d m_Ties_lengthen [(.ref 12, 30), (.int (iN x), 0)] (setR M 12 T) K := by
  refine CT.of pn_Ties (Nat.le_of_ble_eq_true rfl) ?_
  refine b_Ties_lengthen_0 (by omega) ?_
  have outer : ∀ k : Nat, k ≤ n → ∀ (T' : Ch) (B' : Nat → Nat), (∀ c, c ≤ 3 → T' c = T c) → BT T' B' → lnL (T 2) n x k (n - k) B' = lnL (T 2) n x 0 n B → G l E d m_Ties_lengthen 2 [(0, (.ref 12, 30)), (1, (.int (iN x), 0)), (2, (.int (iN k), 0))] [] (setR M 12 T') K := by
    refine dn n (fun T' B' ht hb he => ?_) (fun k hk ih T' B' ht hb he => ?_)
    · rw [Nat.sub_self] at he
      have he : B' = lnL (T 2) n x 0 n B := he
      rw [he] at hb
      refine b_Ties_lengthen_2 (by omega) ⟨fun _ => h T' ht hb, fun c => absurd ?_ c⟩
      rw [setR_same, ht 0 (by omega), hn]; exact (iN_le (by omega) (by omega) (by omega) (by omega)).mpr (by omega)
    · rw [show n - k = (n - (k + 1)) + 1 by omega] at he
      have he : lnL (T 2) n x (k + 1) (n - (k + 1)) (if (B' x).testBit k then lnS x (nAnd (T 2 k).toNat x) 0 n B' else B') = lnL (T 2) n x 0 n B := he
      have bx := hb x x2
      have a1 := hA k hk
      refine b_Ties_lengthen_2 (by omega) ⟨fun c => absurd c ?_, fun _ => ⟨iN_in (by omega) (by omega) (by omega), ?_⟩⟩
      · rw [setR_same, ht 0 (by omega), hn, iN_le (by omega) (by omega) (by omega) (by omega)]; omega
      · rw [setR_same, iN_clN (by omega), bx.1]
        refine c_isIn (by omega) (by omega) (by omega) (s := k) (by omega) ?_
        rw [toI_int, b2i_z, inS_nat, iN_add]
        refine ⟨fun c => ih T' B' ht hb ?_, fun c => ⟨iN_in (by omega) (by omega) (by omega), ?_⟩⟩
        · rw [c, if_neg (by simp)] at he; exact he
        · rw [Bool.not_eq_false] at c
          rw [c, if_pos rfl] at he
          obtain ⟨z, hz⟩ : ∃ z : Nat, T 2 k = z := ⟨(T 2 k).toNat, (by omega)⟩
          rw [hz, show ((z : Int)).toNat = z from rfl] at he
          rw [setR_same, iN_clN (by omega), ht 2 (by omega), hz, and_not z (by omega) x x2]
          have nl := nAnd_lt x (show z < 256 by omega)
          generalize nAnd z x = nx at *
          have inner : ∀ s : Nat, s ≤ n → ∀ (T2 : Ch) (B2 : Nat → Nat), (∀ c, c ≤ 3 → T2 c = T c) → BT T2 B2 → lnS x nx s (n - s) B2 = lnS x nx 0 n B' → G l E d m_Ties_lengthen 37 [(0, (.ref 12, 30)), (1, (.int (iN x), 0)), (2, (.int (iN k), 0)), (3, (.int (iN nx), 0)), (4, (.int (iN s), 0))] [] (setR M 12 T2) K := by
            refine dn n (fun T2 B2 ht2 hb2 he2 => ?_) (fun s hs ih2 T2 B2 ht2 hb2 he2 => ?_)
            · rw [Nat.sub_self] at he2
              have he2 : B2 = lnS x nx 0 n B' := he2
              refine b_Ties_lengthen_37 (by omega) ⟨fun _ => ?_, fun c => absurd ?_ c⟩
              · rw [iN_add]
                exact ih T2 B2 ht2 hb2 (by rw [he2]; exact he)
              · rw [setR_same, ht2 0 (by omega), hn]; exact (iN_le (by omega) (by omega) (by omega) (by omega)).mpr (by omega)
            · rw [show n - s = (n - (s + 1)) + 1 by omega] at he2
              have he2 : lnS x nx (s + 1) (n - (s + 1)) (if nx.testBit s then updN B2 (x ||| 2 ^ s) (B2 (x ||| 2 ^ s) ||| 2 ^ s) else B2) = lnS x nx 0 n B' := he2
              refine b_Ties_lengthen_37 (by omega) ⟨fun c => absurd c ?_, fun _ => c_isIn (by omega) (by omega) (by omega) (s := s) (by omega) ?_⟩
              · rw [setR_same, ht2 0 (by omega), hn, iN_le (by omega) (by omega) (by omega) (by omega)]; omega
              · rw [toI_int, b2i_z, inS_nat, iN_add, or_bit (by omega) (by omega) (by omega), setB_nat]
                have ol : x ||| 2 ^ s < 256 := or_lt x2 (pow_lt (by omega))
                refine ⟨fun c => ih2 T2 B2 ht2 hb2 ?_, fun c => ⟨iN_in (by omega) (by omega) (by omega), iN_in (by omega) (by omega) (by omega), ?_⟩⟩
                · rw [c, if_neg (by simp)] at he2; exact he2
                · rw [Bool.not_eq_false] at c
                  rw [c, if_pos rfl] at he2
                  have by2 := hb2 (x ||| 2 ^ s) ol
                  have ol2 : B2 (x ||| 2 ^ s) ||| 2 ^ s < 256 := or_lt by2.2 (pow_lt (by omega))
                  rw [iN_clN (by omega), setR_same, by2.1, or_bit (by omega) (by omega) (by omega), setB_nat, iNn_toI (by omega), upd3_setR, setR_same, setR_setR]
                  exact ih2 _ _ (fun c hc => by rw [upd2_c _ _ (by omega)]; exact ht2 c hc) (BT_upd hb2 ol2) he2
          exact inner 0 (by omega) T' B' ht hb rfl
  exact outer 0 (by omega) T B (fun _ _ => rfl) hB rfl
def lrI (lv : Nat) : Nat → Nat → (Nat → Nat) → (Nat → Nat)
  | _, 0, B => B
  | s, m + 1, B => lrI lv (s + 1) m (updN B (2 ^ s) (lv &&& 2 ^ s))
def lrF (A : Nat → Int) (n : Nat) : Nat → Nat → Int → (Nat → Nat) → Int
  | _, 0, b, _ => b
  | x, m + 1, b, B => if B x = 0 then lrF A n (x + 1) m b B else lrF A n (x + 1) m (max b (popc x)) (lnL A n x 0 n B)
def rowC (A : Nat → Int) (n lv : Nat) : Int := lrF A n 1 lv 0 (lrI lv 0 n (fun _ => 0))
theorem c_longestRow {l : Launch} {E : EnvT} {d : Nat} {K : AV → Mem → Prop} {M : Mem} {T : Ch} {n lv : Nat} (hd : 3 ≤ d) (hn : T 0 6 = n) (n8 : n ≤ 8) (hl : T 0 7 = lv) (l2 : lv < 256) (hA : ∀ s, s < n → 0 ≤ T 2 s ∧ T 2 s < 256) (h : ∀ T' : Ch, (∀ c, c ≤ 3 → T' c = T c) → K (.int (iN (rowC (T 2) n lv)), 0) (setR M 12 T')) : CT l E d m_Ties_longestRow [(.ref 12, 30)] (setR M 12 T) K := by
  refine CT.of pn_Ties (Nat.le_of_ble_eq_true rfl) ?_
  refine b_Ties_longestRow_0 (by omega) (c_fill_bests (by omega) (by omega) (by omega) ?_)
  unfold rowC at h
  have last : ∀ m : Nat, ∀ x : Nat, 1 ≤ x → x + m = lv + 1 → ∀ (b : Int) (T' : Ch) (B' : Nat → Nat), 0 ≤ b → b ≤ 8 → (∀ c, c ≤ 3 → T' c = T c) → BT T' B' → lrF (T 2) n x m b B' = lrF (T 2) n 1 lv 0 (lrI lv 0 n (fun _ => 0)) → G l E d m_Ties_longestRow 44 [(0, (.ref 12, 30)), (1, (.int (iN b), 0)), (2, (.int (iN x), 0))] [] (setR M 12 T') K := by
    intro m
    induction m with
    | zero =>
      intro x x1 xm b T' B' b1 b2 ht hb he
      refine b_Ties_longestRow_44 (by omega) ⟨fun _ => ?_, fun c => absurd ?_ c⟩
      · have he : b = _ := he
        rw [← he] at h
        exact h T' ht
      · rw [setR_same, ht 0 (by omega), hl, iN_lt (by omega) (by omega) (by omega) (by omega)]; omega
    | succ m ih =>
      intro x x1 xm b T' B' b1 b2 ht hb he
      have he : (if B' x = 0 then lrF (T 2) n (x + 1) m b B' else lrF (T 2) n (x + 1) m (max b (popc x)) (lnL (T 2) n x 0 n B')) = _ := he
      have bx := hb x (by omega)
      have p1 := popc_lo x
      have p2 := popc_hi x
      refine b_Ties_longestRow_44 (by omega) ⟨fun c => absurd c ?_, fun _ => ⟨iN_in (by omega) (by omega) (by omega), ?_⟩⟩
      · rw [setR_same, ht 0 (by omega), hl, iN_lt (by omega) (by omega) (by omega) (by omega)]; omega
      · rw [setR_same, iN_clN (by omega), bx.1, iN_eq0 (by omega) (by omega), iN_add, show (x : Int) + 1 = ((x + 1 : Nat) : Int) by omega]
        refine ⟨fun c => ih (x + 1) (by omega) (by omega) b T' B' b1 b2 ht hb ?_, fun c => ?_⟩
        · rw [if_pos (show B' x = 0 by omega)] at he; exact he
        · rw [if_neg (show ¬ B' x = 0 by omega)] at he
          refine c_bitCount (by omega) (by omega) (by omega) ?_
          rw [toI_int, show ((x : Int)).toNat = x from rfl]
          refine c_max (by omega) (by omega) (by omega) (by omega) (by omega) ?_
          rw [toI_int]
          refine c_lengthen (x := x) (by omega) (by rw [ht 0 (by omega)]; exact hn) n8 (by omega) (by rw [ht 2 (by omega)]; exact hA) hb (fun T2 ht2 hb2 => ?_)
          rw [ht 2 (by omega)] at hb2
          exact ih (x + 1) (by omega) (by omega) _ T2 _ (by omega) (by omega) (fun c hc => by rw [ht2 c hc, ht c hc]) hb2 he
  have first : ∀ s : Nat, s ≤ n → ∀ (T' : Ch) (B' : Nat → Nat), (∀ c, c ≤ 3 → T' c = T c) → BT T' B' → lrI lv s (n - s) B' = lrI lv 0 n (fun _ => 0) → G l E d m_Ties_longestRow 10 [(0, (.ref 12, 30)), (1, (.int (iN s), 0))] [] (setR M 12 T') K := by
    refine dn n (fun T' B' ht hb he => ?_) (fun s hs ih T' B' ht hb he => ?_)
    · rw [Nat.sub_self] at he
      have he : B' = _ := he
      refine b_Ties_longestRow_10 (by omega) ⟨fun _ => ?_, fun c => absurd ?_ c⟩
      · exact last lv 1 (by omega) (by omega) 0 T' B' (by omega) (by omega) ht hb (by rw [he])
      · rw [setR_same, ht 0 (by omega), hn]; exact (iN_le (by omega) (by omega) (by omega) (by omega)).mpr (by omega)
    · rw [show n - s = (n - (s + 1)) + 1 by omega] at he
      have he : lrI lv (s + 1) (n - (s + 1)) (updN B' (2 ^ s) (lv &&& 2 ^ s)) = _ := he
      have pl := pow_lt (s := s) (by omega)
      have al : lv &&& 2 ^ s < 256 := Nat.lt_of_le_of_lt Nat.and_le_left l2
      refine b_Ties_longestRow_10 (by omega) ⟨fun c => absurd c ?_, fun _ => ?_⟩
      · rw [setR_same, ht 0 (by omega), hn, iN_le (by omega) (by omega) (by omega) (by omega)]; omega
      · rw [setR_same, ht 0 (by omega), hl, and_one lv l2 s (by omega), one_bit s (by omega), iN_clN (by omega), iNn_toI (by omega), upd3_setR, setR_same, setR_setR, iN_add]
        exact ⟨iN_in (Int.natCast_nonneg _) (Int.ofNat_lt.mpr pl) (by omega), ih _ _ (fun c hc => by rw [upd2_c _ _ (by omega)]; exact ht c hc) (BT_upd hb al) he⟩
  refine first 0 (by omega) _ (fun _ => 0) (fun c hc => fillC_c _ _ _ (by omega)) (fun y hy => ?_) rfl
  unfold fillC
  rw [if_pos ⟨rfl, hy⟩]
  exact ⟨rfl, show (0 : Nat) < 256 by decide⟩
