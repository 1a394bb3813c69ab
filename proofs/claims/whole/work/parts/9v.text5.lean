theorem u_tn {n : Nat} (h : n < 2 ^ 64) : (UInt64.ofNat n).toNat = n := Nat.mod_eq_of_lt h
theorem g_or {k p a b : Nat} (hp : 2 ^ k = p) (ha : a < p) (h : b * p + a < 2 ^ 64) : lN (b * p) ||| lN a = lN (b * p + a) := by
  subst hp
  have h1 : b * 2 ^ k ||| a = b * 2 ^ k + a := by rw [← Nat.shiftLeft_eq, Nat.shiftLeft_add_eq_or_of_lt ha]
  have h3 : UInt64.ofNat (b * 2 ^ k) ||| UInt64.ofNat a = UInt64.ofNat (b * 2 ^ k + a) := UInt64.toNat_inj.mp (by rw [UInt64.toNat_or, u_tn (by omega), u_tn (by omega), u_tn h, h1])
  have h2 := congrArg UInt64.toInt64 h3
  exact h2
theorem g_shl {a k p : Nat} {y : Int64} (hy : y.toBitVec.smod 64 = BitVec.ofNat 64 k) (hk : k < 64) (hp : 2 ^ k = p) (ha : a < 2 ^ 64) : lN a <<< y = lN (a * p) := by
  subst hp
  apply Int64.toBitVec_inj.mp
  rw [Int64.toBitVec_shiftLeft, hy]
  apply BitVec.eq_of_toNat_eq
  have hb : (lN a).toBitVec.toNat = a := Nat.mod_eq_of_lt ha
  have hk' : (BitVec.ofNat 64 k).toNat = k := Nat.mod_eq_of_lt (by omega)
  have h : ((lN a).toBitVec <<< BitVec.ofNat 64 k).toNat = (a * 2 ^ k) % 2 ^ 64 := by simp only [BitVec.shiftLeft_eq', BitVec.toNat_shiftLeft, hb, hk', Nat.shiftLeft_eq]
  exact h
theorem lI_lN {n : Nat} (h : n < 9223372036854775808) : lI (n : Int) = lN n := Int64.toInt_inj.mp (by rw [lI_small (by omega) (by omega)]; exact (lg_ofNat_toInt (by omega)).symm)
theorem shl8 {v c : Int} (v1 : 0 ≤ v) (v2 : v < 36028797018963968) (c1 : 0 ≤ c) (c2 : c < 256) : (lI v <<< ((iN 8).toInt64 &&& 63)) ||| (iN c).toInt64 = lI (v * 256 + c) := by
  obtain ⟨a, rfl⟩ : ∃ a : Nat, v = a := ⟨v.toNat, (by omega)⟩
  obtain ⟨b, rfl⟩ : ∃ b : Nat, c = b := ⟨c.toNat, (by omega)⟩
  rw [iN_toL (b := (b : Int)) (by omega) (by omega), lI_lN (n := a) (by omega), lI_lN (n := b) (by omega), g_shl (k := 8) (p := 256) (by decide +kernel) (by decide) (by decide) (by omega), g_or (k := 8) (p := 256) (by decide) (by omega) (by omega), show (a : Int) * 256 + b = ((a * 256 + b : Nat) : Int) by omega, lI_lN (by omega)]
def v256 (X : Nat → Int) (q : Nat) : Nat → Int
  | 0 => 0
  | n + 1 => v256 X q n * 256 + X (q + n)
theorem v256_rng {X : Nat → Int} {q : Nat} : ∀ n, small X q n → 0 ≤ v256 X q n ∧ 2 * v256 X q n < ((256 ^ n : Nat) : Int)
  | 0, _ => ⟨Int.le_refl _, by show 2 * (0 : Int) < ((256 ^ 0 : Nat) : Int); decide⟩
  | n + 1, h => by
    have a := v256_rng n (fun j hj => h j (by omega))
    have b := h n (by omega)
    have e : v256 X q (n + 1) = v256 X q n * 256 + X (q + n) := rfl
    rw [e, Nat.pow_succ]
    generalize (256 : Nat) ^ n = P at a ⊢
    omega
theorem v256_inj {X : Nat → Int} {q : Nat} : ∀ n, small X q n → ∀ (Y : Nat → Int) (r m : Nat), small Y r m → (v256 X q n = v256 Y r m ↔ w27 X q n = w27 Y r m)
  | 0, _, Y, r, 0, _ => ⟨fun _ => rfl, fun _ => rfl⟩
  | 0, h, Y, r, m + 1, hm => by
    have a := (w27_rng (m + 1) hm).2.2 (by omega)
    have b := v256_rng m (fun j hj => hm j (by omega))
    have c := hm m (by omega)
    have e : v256 Y r (m + 1) = v256 Y r m * 256 + Y (r + m) := rfl
    refine ⟨fun q => ?_, fun q => ?_⟩
    · have q : 0 = v256 Y r (m + 1) := q
      omega
    · have q : 0 = w27 Y r (m + 1) := q
      omega
  | n + 1, h, Y, r, 0, hm => by
    have a := (w27_rng (n + 1) h).2.2 (by omega)
    have b := v256_rng n (fun j hj => h j (by omega))
    have c := h n (by omega)
    have e : v256 X q (n + 1) = v256 X q n * 256 + X (q + n) := rfl
    refine ⟨fun q2 => ?_, fun q2 => ?_⟩
    · have q2 : v256 X q (n + 1) = 0 := q2
      omega
    · have q2 : w27 X q (n + 1) = 0 := q2
      omega
  | n + 1, h, Y, r, m + 1, hm => by
    have ih := v256_inj n (fun j hj => h j (by omega)) Y r m (fun j hj => hm j (by omega))
    have c1 := h n (by omega)
    have c2 := hm m (by omega)
    show v256 X q n * 256 + X (q + n) = v256 Y r m * 256 + Y (r + m) ↔ w27 X q n * 27 + X (q + n) - 96 = w27 Y r m * 27 + Y (r + m) - 96
    refine ⟨fun e => ?_, fun e => ?_⟩
    · have e1 : v256 X q n = v256 Y r m := (by omega)
      have := ih.mp e1
      omega
    · have e1 : w27 X q n = w27 Y r m := (by omega)
      have := ih.mpr e1
      omega
/-- a name, the class's number x and the reference's y -/
def NMP (x y : Int) : Prop := ∃ (X : Nat → Int) (q n : Nat), small X q n ∧ n ≤ 8 ∧ x = w27 X q n ∧ y = v256 X q n
theorem NMP.rng {x y : Int} (h : NMP x y) : 0 ≤ x ∧ x < 282429536481 ∧ 0 ≤ y ∧ y < 9223372036854775808 := by
  obtain ⟨X, q, n, h1, h2, rfl, rfl⟩ := h
  have a := w27_rng n h1
  have b := v256_rng n h1
  have p8 : 27 ^ n ≤ 27 ^ 8 := Nat.pow_le_pow_right (by decide) h2
  have e8 : (27 : Nat) ^ 8 = 282429536481 := by decide
  have p9 : 256 ^ n ≤ 256 ^ 8 := Nat.pow_le_pow_right (by decide) h2
  have e9 : (256 : Nat) ^ 8 = 18446744073709551616 := by decide
  omega
theorem NMP.iff {x y x' y' : Int} (h : NMP x y) (h' : NMP x' y') : y = y' ↔ x = x' := by
  obtain ⟨X, q, n, h1, h2, rfl, rfl⟩ := h
  obtain ⟨Y, r, m, g1, g2, rfl, rfl⟩ := h'
  exact v256_inj n h1 Y r m g1
/-- the names of a choir, the class's and the reference's from b on -/
def NR (C Z : Ch) (b : Nat) : Prop := ∀ s : Nat, (s : Int) < C 0 8 → NMP (C 1 s) (Z 2 (b + s))
theorem r_nameHere {l : Launch} {E : EnvT} {d : Nat} {K : AV → Mem → Prop} {M : Mem} {Z T : Ch} {A : Nat → Int} {X : Nat → Int} {L : Nat} {p : Int} (hd : 2 ≤ d) (hX : XBn X) (L9 : L ≤ 900) (ok : OKT X L p T Z) (hm : (nmT T).1 = true) (h : ∀ y, NMP (T 0 9) y → K (.long (lI y), 0) (zA M Z A)) : CT l E d m_Mod_nameHere [(.ref 24, 41)] (zA M Z A) K := by
  refine CT.of pn_Mod (Nat.le_of_ble_eq_true rfl) ?_
  obtain ⟨tz, ti, z18, t10, gp⟩ := ok
  have nm : T 0 3 = 1 ∧ T 0 7 ≤ 8 ∧ T 0 8 = -1 := by
    unfold nmT at hm
    by_cases c : T 0 3 = 1 ∧ T 0 7 ≤ 8 ∧ T 0 8 = -1
    · exact c
    · rw [if_neg c] at hm; cases hm
  obtain ⟨q, n, w1, w2, w3, w4, w5, w6, w7, w8⟩ := tz.2.2.2.2.2.2.1 nm.1
  have n8 : n ≤ 8 := by have := nm.2.1; omega
  rw [show min n 8 = n by omega] at w7
  have h := h (v256 X q n) ⟨X, q, n, w6, n8, w7, rfl⟩
  have b13 : Z 0 13 = q := by rw [tz.2.1]; exact w1
  have b14 : Z 0 14 = ((q + n : Nat) : Int) := by rw [tz.2.2.2.1 (by rw [nm.1]; decide)]; exact w3
  refine b_Mod_nameHere_0 (by omega) ?_
  rw [zA_0, b13]
  have key : ∀ j, j ≤ n → G l E d m_Mod_nameHere 7 [(0, (.ref 24, 41)), (1, (.long (lI (v256 X q j)), 0)), (3, (.int (iN ((q + j : Nat) : Int)), 0))] [] (zA M Z A) K := by
    refine dn n ?_ (fun j hj ih => ?_)
    · refine b_Mod_nameHere_7 (by omega) ?_
      rw [zA_0, b14]
      exact ⟨fun _ => h, fun c => absurd ((iN_le (by omega) (by omega) (by omega) (by omega)).mpr (Int.le_refl _)) c⟩
    · have sm := w6 j hj
      have vr := v256_rng j (fun i hi => w6 i (by omega))
      have p9 : 256 ^ j ≤ 256 ^ 7 := Nat.pow_le_pow_right (by decide) (by omega)
      have e9 : (256 : Nat) ^ 7 = 72057594037927936 := by decide
      refine b_Mod_nameHere_7 (by omega) ?_
      rw [zA_0, b14, iN_le (by omega) (by omega) (by omega) (by omega)]
      refine ⟨fun c => absurd c (by push_cast; omega), fun _ => r_byteAt (by omega) tz.1 hX L9 (by omega) ?_⟩
      have bx : bA X L (q + j) = X (q + j) := by unfold bA; rw [if_pos (by omega)]; omega
      rw [bx, toI_int, shl8 (by omega) (by omega) (by omega) (by omega), iN_add, show ((q + j : Nat) : Int) + 1 = ((q + (j + 1) : Nat) : Int) by push_cast; omega]
      exact ih
  exact key 0 (by omega)
theorem r_findHere {l : Launch} {E : EnvT} {d : Nat} {K : AV → Mem → Prop} {M : Mem} {Z T C : Ch} {A : Nat → Int} {X : Nat → Int} {L b : Nat} {p : Int} (hd : 3 ≤ d) (hX : XBn X) (L9 : L ≤ 900) (ok : OKT X L p T Z) (hm : (nmT T).1 = true) (hV : VB C) (hN : NR C Z b) (hb : b ≤ 40) (h : K (.int (iN (findC C (lI (T 0 9)))), 0) (zA M Z A)) : CT l E d m_Mod_findHere [(.ref 24, 41), (.int (iN (b : Int)), 0), (.int (iN (C 0 8)), 0)] (zA M Z A) K := by
  refine CT.of pn_Mod (Nat.le_of_ble_eq_true rfl) ?_
  have hn0 := hV.n
  obtain ⟨n, hn⟩ : ∃ n : Nat, C 0 8 = n := ⟨(C 0 8).toNat, (by omega)⟩
  refine b_Mod_findHere_0 (by omega) ?_
  rw [hn]
  have key : ∀ m i : Nat, i + m = n → findC C (lI (T 0 9)) = fndF (fun s => decide (lI (C 1 s) = lI (T 0 9))) i m → G l E d m_Mod_findHere 2 [(0, (.ref 24, 41)), (1, (.int (iN (b : Int)), 0)), (2, (.int (iN (n : Int)), 0)), (3, (.int (iN (i : Int)), 0))] [] (zA M Z A) K := by
    intro m
    induction m with
    | zero =>
      intro i hi he
      rw [he] at h
      exact b_Mod_findHere_2 (by omega) ⟨fun _ => h, fun c => absurd ((iN_le (by omega) (by omega) (by omega) (by omega)).mpr (by omega)) c⟩
    | succ m ih =>
      intro i hi he
      refine b_Mod_findHere_2 (by omega) ?_
      rw [iN_le (by omega) (by omega) (by omega) (by omega), iN_add, iN_add]
      refine ⟨fun c => absurd c (by omega), fun _ => ⟨iN_in (by omega) (by omega) (by omega), r_nameHere (by omega) hX L9 ok hm (fun y hy => ?_)⟩⟩
      have p1 := hN i (by omega)
      have r1 := p1.rng
      have r2 := hy.rng
      rw [zA_c M Z A (show 2 ≠ 1 by decide), cl4 (z := (b : Int) + (i : Int)) (j := b + i) (by omega) (by omega), cmp0, toL_long, lI_eq (by omega) (by omega) (by omega) (by omega), p1.iff hy, ← lI_eq (a := C 1 i) (b := T 0 9) (by omega) (by omega) (by omega) (by omega)]
      refine ⟨fun c => ih (i + 1) (by omega) ?_, fun c => ?_⟩
      · rw [he]
        simp [fndF, c]
      · rw [he] at h
        simpa [fndF, c] using h
  exact key n 0 (by omega) (by unfold findC fnd; rw [hn]; rfl)
theorem findC_s {C : Ch} (hV : VB C) (x : Int64) : findC C x = -1 ∨ ∃ s : Nat, findC C x = s ∧ (s : Int) < C 0 8 := by
  have hn := hV.n
  unfold findC fnd
  rcases fndF_ge (fun s => decide (lI (C 1 s) = x)) (C 0 8).toNat 0 with e | ⟨j, e, h1, h2, h3, h4⟩
  · exact Or.inl e
  · exact Or.inr ⟨j, e, (by omega)⟩
theorem r_oldOne {l : Launch} {E : EnvT} {d : Nat} {K : AV → Mem → Prop} {M : Mem} {Z T C : Ch} {A : Nat → Int} {X : Nat → Int} {L b j : Nat} {p : Int} (hd : 7 ≤ d) (hX : XBn X) (L9 : L ≤ 900) (ok : OKT X L p T Z) (hV : VB C) (hN : NR C Z b) (hb : b ≤ 40) (hj : j < 3612) (hy : (nmT T).1 = true → findC C (lI (T 0 9)) ≠ -1 → ∀ Z', ZP Z Z' → OKT X L p (advT X L T) Z' → K (.int (iN 1), 0) (zA M Z' (updP A j (findC C (lI (T 0 9)))))) (h3 : (nmT T).1 = true → findC C (lI (T 0 9)) = -1 → ∀ Z', ZP Z Z' → FZ (rfT T 3) Z' → K (.int (iN 0), 0) (zA M Z' (updP A j (-1)))) (h2 : (nmT T).1 = false → ∀ Z', ZP Z Z' → FZ (nmT T).2 Z' → K (.int (iN 0), 0) (zA M Z' A)) : CT l E d m_Mod_oldOne [(.ref 24, 41), (.int (iN (b : Int)), 0), (.int (iN (C 0 8)), 0), (.int (iN (j : Int)), 0)] (zA M Z A) K := by
  refine CT.of pn_Mod (Nat.le_of_ble_eq_true rfl) ?_
  have hn0 := hV.n
  refine b_Mod_oldOne_0 (by omega) (r_isName (by omega) hX L9 ok ?_)
  rw [toI_int, b2i_z]
  refine ⟨fun c => ?_, fun c => r_fails (by omega) ok (by omega) (by omega) (fun Z' z1 z2 => ⟨z01, h2 c Z' z1 ?_⟩)⟩
  · rw [Bool.not_eq_false] at c
    have nm : T 0 3 = 1 := by
      unfold nmT at c
      by_cases q : T 0 3 = 1 ∧ T 0 7 ≤ 8 ∧ T 0 8 = -1
      · exact q.1
      · rw [if_neg q] at c; cases c
    have fr : -1 ≤ findC C (lI (T 0 9)) ∧ findC C (lI (T 0 9)) < 8 := by
      rcases findC_s hV (lI (T 0 9)) with e | ⟨s, e, e2⟩ <;> omega
    refine r_findHere (by omega) hX L9 ok c hV hN hb ?_
    rw [toI_int, clA (z := (j : Int)) (j := j) rfl hj, iN_small (by omega) (by omega), zA_u, zA_1, updP_same, iN_eq (by omega) (by omega) (by omega) (by omega)]
    refine ⟨inA (by omega) (by omega), inA (by omega) (by omega), fun c2 => r_next (by omega) hX L9 ok (by rw [nm]; decide) (fun Z' z1 z2 => ⟨o01, hy c c2 Z' z1 z2⟩), fun c2 => r_fails (by omega) ok (by omega) (by omega) (fun Z' z1 z2 => ⟨z01, ?_⟩)⟩
    rw [c2]
    exact h3 c c2 Z' z1 z2
  · unfold nmT at c ⊢
    by_cases q : T 0 3 = 1 ∧ T 0 7 ≤ 8 ∧ T 0 8 = -1
    · rw [if_pos q] at c; cases c
    · rw [if_neg q]; exact z2
