def fi (x : Int64) : List Int64 → Int → Int
  | [], _ => -1
  | g :: t, i => if g = x then i else fi x t (i + 1)
def cdF : List Int32 → Int64 → List Int64
  | [], _ => []
  | c :: t, g => if c = iN 32 then g :: cdF t (lI 0) else cdF t (g * lI 27 + c.toInt64 - lI 96)
theorem kwF_fi (x : Int64) : ∀ (l : List Int32) (i : Int) (g : Int64), kwF x l i g = fi x (cdF l g) i
  | [], _, _ => rfl
  | c :: t, i, g => by
    show (if c = iN 32 then (if g = x then i else kwF x t (i + 1) (lI 0)) else kwF x t i (g * lI 27 + c.toInt64 - lI 96)) = fi x (if c = iN 32 then g :: cdF t (lI 0) else cdF t (g * lI 27 + c.toInt64 - lI 96)) i
    by_cases hc : c = iN 32
    · rw [if_pos hc, if_pos hc, kwF_fi x t]; rfl
    · rw [if_neg hc, if_neg hc, kwF_fi x t]
theorem fi_spec (x : Int64) : ∀ (l : List Int64) (i : Int), fi x l i = -1 ∨ ∃ j : Nat, j < l.length ∧ fi x l i = i + j ∧ l.getD j 0 = x
  | [], _ => Or.inl rfl
  | g :: t, i => by
    have e : fi x (g :: t) i = if g = x then i else fi x t (i + 1) := rfl
    rw [e]
    by_cases c : g = x
    · rw [if_pos c]
      exact Or.inr ⟨0, by simp, by simp, by simpa using c⟩
    · rw [if_neg c]
      rcases fi_spec x t (i + 1) with e | ⟨j, j1, j2, j3⟩
      · exact Or.inl e
      · refine Or.inr ⟨j + 1, ?_, by rw [j2]; push_cast; omega, by simpa using j3⟩
        rw [List.length_cons]
        omega
/-- where the words of the reference's keys begin -/
def kst (n : Nat) : Nat := [1, 8, 13, 18, 23, 29, 34, 39, 44, 49, 54, 58, 65, 69, 75, 79, 82, 87, 92, 96, 101, 106, 112].getD n 0
def ch8 (j : Nat) : Int32 := (STRB.getD 8 []).getD j 0
def rwl (n : Nat) : Nat := kst (n + 1) - 1 - kst n
/-- a keyword, the class's and the reference's -/
def kwR (k : Int) : Int := if k < 0 then -1 else [0, 4, 5, 6, 7, 8, 1, 2, 3, 9, 15, 10, 11, 12, 13, 14, 16, 20, 21, 17, 18, 19].getD k.toNat (-1)
def cdN (n : Nat) : Int := w27 (fun j => (ch8 (kst n + j)).toInt) 0 (rwl n)
theorem kw_a : ∀ n, n < 22 → kwR (kwA (cdN n)) = n := by decide +kernel
theorem kw_b : ∀ i : Nat, i < 22 → (cdF (STRB.getD 0 []) (lI 0)).getD i 0 = lI (cdN (kwR i).toNat) ∧ (kwR i).toNat < 22 ∧ 0 ≤ cdN (kwR i).toNat ∧ cdN (kwR i).toNat < 282429536481 := by decide +kernel
theorem kw_l : (cdF (STRB.getD 0 []) (lI 0)).length = 22 := by decide +kernel
theorem kw_c : ∀ n, n < 22 → kst n + rwl n < 112 ∧ kst (n + 1) = kst n + rwl n + 1 ∧ rwl n ≤ 6 ∧ ch8 (kst n + rwl n) = iN 32 := by decide +kernel
theorem kw_d : ∀ n, n < 22 → ∀ j, j < rwl n → ¬ ch8 (kst n + j) = iN 32 ∧ 97 ≤ (ch8 (kst n + j)).toInt ∧ (ch8 (kst n + j)).toInt ≤ 122 := by decide +kernel
theorem kw_e : ∀ a b : Nat, a < 23 → b < 23 → kwR ((a : Int) - 1) = kwR ((b : Int) - 1) → a = b := by
  have : ∀ a : Nat, a < 23 → ∀ b : Nat, b < 23 → kwR ((a : Int) - 1) = kwR ((b : Int) - 1) → a = b := by decide +kernel
  exact fun a b h1 h2 => this a h1 b h2
theorem kwR_inj {x y : Int} (h1 : -1 ≤ x) (h2 : x ≤ 21) (h3 : -1 ≤ y) (h4 : y ≤ 21) : kwR x = kwR y ↔ x = y := by
  refine ⟨fun h => ?_, fun h => by rw [h]⟩
  have := kw_e (x + 1).toNat (y + 1).toNat (by omega) (by omega) (by rw [show (((x + 1).toNat : Nat) : Int) - 1 = x by omega, show (((y + 1).toNat : Nat) : Int) - 1 = y by omega]; exact h)
  omega
theorem kwR_rng {x : Int} (h1 : -1 ≤ x) (h2 : x ≤ 21) : -1 ≤ kwR x ∧ kwR x ≤ 21 := by
  have : ∀ a : Nat, a < 23 → -1 ≤ kwR ((a : Int) - 1) ∧ kwR ((a : Int) - 1) ≤ 21 := by decide +kernel
  have := this (x + 1).toNat (by omega)
  rw [show (((x + 1).toNat : Nat) : Int) - 1 = x by omega] at this
  exact this
def small (X : Nat → Int) (q n : Nat) : Prop := ∀ j, j < n → 97 ≤ X (q + j) ∧ X (q + j) ≤ 122
theorem w27_cg {X Y : Nat → Int} {q r : Nat} : ∀ n, (∀ j, j < n → X (q + j) = Y (r + j)) → w27 X q n = w27 Y r n
  | 0, _ => rfl
  | n + 1, h => by
    show w27 X q n * 27 + X (q + n) - 96 = w27 Y r n * 27 + Y (r + n) - 96
    rw [w27_cg n (fun j hj => h j (by omega)), h n (by omega)]
theorem w27_rng {X : Nat → Int} {q : Nat} : ∀ n, small X q n → 0 ≤ w27 X q n ∧ w27 X q n < ((27 ^ n : Nat) : Int) ∧ (1 ≤ n → 1 ≤ w27 X q n)
  | 0, _ => ⟨Int.le_refl _, by show (0 : Int) < ((27 ^ 0 : Nat) : Int); decide, fun h => absurd h (by omega)⟩
  | n + 1, h => by
    have a := w27_rng n (fun j hj => h j (by omega))
    have b := h n (by omega)
    have e : w27 X q (n + 1) = w27 X q n * 27 + X (q + n) - 96 := rfl
    rw [e, Nat.pow_succ]
    generalize (27 : Nat) ^ n = P at a ⊢
    push_cast
    omega
theorem w27_inj {X Y : Nat → Int} {q r : Nat} : ∀ n m, small X q n → small Y r m → w27 X q n = w27 Y r m → n = m ∧ ∀ j, j < n → X (q + j) = Y (r + j)
  | 0, 0, _, _, _ => ⟨rfl, fun j hj => absurd hj (by omega)⟩
  | 0, m + 1, _, h2, e => by
    have a := (w27_rng (m + 1) h2).2.2 (by omega)
    have e : 0 = w27 Y r (m + 1) := e
    omega
  | n + 1, 0, h1, _, e => by
    have a := (w27_rng (n + 1) h1).2.2 (by omega)
    have e : w27 X q (n + 1) = 0 := e
    omega
  | n + 1, m + 1, h1, h2, e => by
    have b1 := h1 n (by omega)
    have b2 := h2 m (by omega)
    have e : w27 X q n * 27 + X (q + n) - 96 = w27 Y r m * 27 + Y (r + m) - 96 := e
    obtain ⟨e1, e2⟩ := w27_inj n m (fun j hj => h1 j (by omega)) (fun j hj => h2 j (by omega)) (by omega)
    subst e1
    refine ⟨rfl, fun j hj => ?_⟩
    by_cases c : j = n
    · subst c; omega
    · exact e2 j (by omega)
def MW (X : Nat → Int) (q len n : Nat) : Prop := rwl n = len ∧ ∀ j, j < len → X (q + j) = (ch8 (kst n + j)).toInt
theorem kw_yes {X : Nat → Int} {q len n : Nat} (hn : n < 22) (h : MW X q len n) : kwR (if len ≤ 8 then kwA (w27 X q (min len 8)) else -1) = n := by
  obtain ⟨h1, h2⟩ := h
  have c := (kw_c n hn).2.2.1
  rw [if_pos (by omega), show min len 8 = len by omega, ← kw_a n hn]
  have e : w27 X q len = cdN n := by
    unfold cdN
    rw [h1]
    exact w27_cg len (fun j hj => by rw [h2 j hj, Nat.zero_add])
  rw [e]
theorem kw_no {X : Nat → Int} {q len : Nat} (hs : small X q len) (h : ∀ n, n < 22 → ¬ MW X q len n) : (if len ≤ 8 then kwA (w27 X q (min len 8)) else -1) = -1 := by
  by_cases c : len ≤ 8
  · rw [if_pos c, show min len 8 = len by omega]
    have wr := w27_rng len hs
    have p8 : 27 ^ len ≤ 27 ^ 8 := Nat.pow_le_pow_right (by decide) c
    have e8 : (27 : Nat) ^ 8 = 282429536481 := by decide
    unfold kwA
    rw [kwF_fi]
    rcases fi_spec (lI (w27 X q len)) (cdF (STRB.getD 0 []) (lI 0)) 0 with e | ⟨j, j1, j2, j3⟩
    · exact e
    · exfalso
      rw [kw_l] at j1
      obtain ⟨b1, b2, b3, b4⟩ := kw_b j j1
      rw [b1, lI_eq (by omega) (by omega) (by omega) (by omega)] at j3
      obtain ⟨i1, i2⟩ := w27_inj (X := X) (q := q) (Y := fun i => (ch8 (kst (kwR j).toNat + i)).toInt) (r := 0) len (rwl (kwR j).toNat) hs (fun i hi => by rw [Nat.zero_add]; exact (kw_d _ b2 i hi).2) (by rw [← j3]; rfl)
      refine h _ b2 ⟨i1.symm, fun i hi => ?_⟩
      have := i2 i hi
      rw [Nat.zero_add] at this
      exact this
  · rw [if_neg c]
theorem eq_iN {c : Int32} {z : Int} (h1 : -2147483648 ≤ z) (h2 : z < 2147483648) : c = iN z ↔ z = c.toInt := by
  refine ⟨fun h => by rw [h, iN_small h1 h2], fun h => ?_⟩
  rw [h]
  exact (Int32.ofInt_toInt c).symm
theorem tk_iff {k : Int} (h1 : 0 ≤ k) (h2 : k ≤ 4) : (iN (tkR k) = iN 2 ↔ k = 1) ∧ (iN (tkR k) = iN 1 ↔ k = 4) ∧ (iN (tkR k) = iN 3 ↔ k = 2) ∧ (iN (tkR k) = iN 4 ↔ k = 3) ∧ (iN (tkR k) = iN 0 ↔ k = 0) := by
  have : k = 0 ∨ k = 1 ∨ k = 2 ∨ k = 3 ∨ k = 4 := (by omega)
  rcases this with rfl | rfl | rfl | rfl | rfl <;> decide +kernel
theorem r_inWords {l : Launch} {E : EnvT} {d : Nat} {K : AV → Mem → Prop} {M : Mem} {Z T : Ch} {A : Nat → Int} {X : Nat → Int} {L : Nat} (hd : 5 ≤ d) (hX : XBn X) (L9 : L ≤ 900) (ti : TI T L) (t : TZ X L T Z) (h : K (.int (iN (kwR (T 0 8))), 0) (zA M Z A)) : CT l E d m_Mod_inWords [(.ref 24, 41), (.ref 8, 999)] (zA M Z A) K := by
  refine CT.of pn_Mod (Nat.le_of_ble_eq_true rfl) ?_
  obtain ⟨tx, t13, t12, t14, t2, t3, tw, t8, t15⟩ := t
  refine b_Mod_inWords_0 (by omega) ?_
  rw [zA_0, t12]
  by_cases k1 : T 0 3 = 1
  · have e2 : tkR (T 0 3) = 2 := by rw [k1]; rfl
    rw [e2]
    refine ⟨fun _ => ?_, fun c => absurd rfl c⟩
    obtain ⟨q, n, w1, w2, w3, w4, w5, w6, w7, w8⟩ := tw k1
    rw [w7] at w8
    have b13 : Z 0 13 = q := by rw [t13]; exact w1
    have b14 : Z 0 14 = ((q + n : Nat) : Int) := by rw [t14 (by omega)]; exact w3
    have go : ∀ m k : Nat, k + m = 22 → (∀ j, j < k → ¬ MW X q n j) → G l E d m_Mod_inWords 14 [(0, (.ref 24, 41)), (1, (.ref 8, 999)), (2, (.int (iN (k : Int)), 0)), (3, (.int (iN (kst k : Int)), 0))] [] (zA M Z A) K := by
      intro m
      induction m with
      | zero =>
        intro k e1 hno
        have : k = 22 := (by omega)
        subst this
        refine b_Mod_inWords_14 (by omega) (c_strLen (by omega) (by omega) ?_)
        rw [toI_int, show STRN.getD 8 0 = 112 from rfl, show kst 22 = 112 from rfl]
        refine ⟨fun _ => ?_, fun c => absurd (by decide +kernel) c⟩
        rw [w8, kw_no w6 hno] at h
        exact h
      | succ m ih =>
        intro k e1 hno
        have k22 : k < 22 := (by omega)
        obtain ⟨c1, c2, c3, c4⟩ := kw_c k k22
        have cd := kw_d k k22
        refine b_Mod_inWords_14 (by omega) (c_strLen (by omega) (by omega) ?_)
        rw [toI_int, show STRN.getD 8 0 = 112 from rfl, iN_le (by omega) (by omega) (by omega) (by omega)]
        refine ⟨fun c => absurd c (by omega), fun _ => ?_⟩
        have nx : (¬ MW X q n k) → G l E d m_Mod_inWords 14 [(0, (.ref 24, 41)), (1, (.ref 8, 999)), (2, (.int (iN (k : Int) + iN 1), 0)), (3, (.int (iN ((kst k + rwl k : Nat) : Int) + iN 1), 0))] [] (zA M Z A) K := by
          intro hn
          rw [iN_add, iN_add, show ((kst k + rwl k : Nat) : Int) + 1 = ((kst (k + 1) : Nat) : Int) by rw [c2]; push_cast; rfl]
          exact ih (k + 1) (by omega) (fun j hj => by
            by_cases e : j = k
            · rw [e]; exact hn
            · exact hno j (by omega))
        have stop : (¬ MW X q n k) → ∀ x6 : Int32, G l E d m_Mod_inWords 68 [(0, (.ref 24, 41)), (1, (.ref 8, 999)), (2, (.int (iN (k : Int)), 0)), (3, (.int (iN (kst k : Int)), 0)), (4, (.int (iN ((kst k + rwl k : Nat) : Int)), 0)), (5, (.int (iN 0), 0)), (6, (.int x6, 0))] [] (zA M Z A) K := by
          intro hn x6
          refine b_Mod_inWords_68 (by omega) ⟨fun _ => ⟨fun _ => nx hn, fun c => absurd (by decide +kernel) c⟩, fun _ => ⟨fun _ => ⟨fun _ => nx hn, fun c => absurd (by decide +kernel) c⟩, fun c => absurd (by decide +kernel) c⟩⟩
        have like : rwl k = n → ∀ j, j ≤ rwl k → (∀ i, i < j → X (q + i) = (ch8 (kst k + i)).toInt) → G l E d m_Mod_inWords 68 [(0, (.ref 24, 41)), (1, (.ref 8, 999)), (2, (.int (iN (k : Int)), 0)), (3, (.int (iN (kst k : Int)), 0)), (4, (.int (iN ((kst k + rwl k : Nat) : Int)), 0)), (5, (.int (iN 1), 0)), (6, (.int (iN ((kst k + j : Nat) : Int)), 0))] [] (zA M Z A) K := by
          intro hlen
          refine dn (rwl k) (fun he => ?_) (fun j hj ihj he => ?_)
          · refine b_Mod_inWords_68 (by omega) ⟨fun _ => ⟨fun c => absurd c (by decide +kernel), fun _ => ?_⟩, fun c => absurd ((iN_le (by omega) (by omega) (by omega) (by omega)).mpr (by omega)) c⟩
            rw [w8, kw_yes k22 ⟨hlen, fun i hi => he i (by omega)⟩] at h
            exact h
          · have sm := w6 j (by omega)
            refine b_Mod_inWords_68 (by omega) ⟨fun c => absurd ((iN_le (by omega) (by omega) (by omega) (by omega)).mp c) (by omega), fun _ => ⟨fun c => absurd c (by decide +kernel), fun _ => c_charAt (by omega) (by omega) (show kst k + j < 112 by omega) ?_⟩⟩
            rw [zA_0, b13, iN_add, iN_sub, show (q : Int) + ((kst k + j : Nat) : Int) - (kst k : Int) = ((q + j : Nat) : Int) by push_cast; omega]
            refine r_byteAt (by omega) tx hX L9 (by omega) ?_
            have bx : bA X L (q + j) = X (q + j) := by unfold bA; rw [if_pos (by omega)]; omega
            rw [bx, toI_int, toI_int, show (STRB.getD 8 []).getD (kst k + j) 0 = ch8 (kst k + j) from rfl, eq_iN (by omega) (by omega), iN_add, show ((kst k + j : Nat) : Int) + 1 = ((kst k + (j + 1) : Nat) : Int) by push_cast; omega]
            refine ⟨fun c => stop (fun mw => c (mw.2 j (by omega))) _, fun c => ihj (fun i hi => ?_)⟩
            by_cases e : i = j
            · rw [e]; exact c
            · exact he i (by omega)
        have scan : ∀ j, j ≤ rwl k → G l E d m_Mod_inWords 25 [(0, (.ref 24, 41)), (1, (.ref 8, 999)), (2, (.int (iN (k : Int)), 0)), (3, (.int (iN (kst k : Int)), 0)), (4, (.int (iN ((kst k + j : Nat) : Int)), 0))] [] (zA M Z A) K := by
          refine dn (rwl k) ?_ (fun j hj ihj => ?_)
          · refine b_Mod_inWords_25 (by omega) (c_charAt (by omega) (by omega) (show kst k + rwl k < 112 by omega) ?_)
            rw [toI_int, show (STRB.getD 8 []).getD (kst k + rwl k) 0 = ch8 (kst k + rwl k) from rfl, c4, zA_0, b13, b14, iN_sub, iN_sub, iN_eq (a := ((kst k + rwl k : Nat) : Int) - (kst k : Int)) (by omega) (by omega) (by omega) (by omega)]
            refine ⟨fun _ => ⟨fun c => stop (fun mw => c (by have := mw.1; push_cast; omega)) _, fun c => like (by push_cast at c; omega) 0 (by omega) (fun i hi => absurd hi (by omega))⟩, fun c => absurd rfl c⟩
          · refine b_Mod_inWords_25 (by omega) (c_charAt (by omega) (by omega) (show kst k + j < 112 by omega) ?_)
            rw [toI_int, show (STRB.getD 8 []).getD (kst k + j) 0 = ch8 (kst k + j) from rfl, iN_add, show ((kst k + j : Nat) : Int) + 1 = ((kst k + (j + 1) : Nat) : Int) by push_cast; omega]
            exact ⟨fun c => absurd c (cd j hj).1, fun _ => ihj⟩
        exact scan 0 (by omega)
    exact go 22 0 (by omega) (fun j hj => absurd hj (by omega))
  · have a3 := ti.2.2.2.1
    refine ⟨fun c => absurd ((tk_iff a3.1 a3.2).1.mp c) k1, fun _ => ?_⟩
    rw [t8 k1] at h
    exact h
