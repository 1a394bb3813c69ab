def tfZ (Z : Ch) (o u : Nat) : Ch := upd2 (upd2 Z 0 3 ((o / Nat.gcd o u : Nat) : Int)) 0 4 ((u / Nat.gcd o u : Nat) : Int)
theorem r_tellsBy {l : Launch} {E : EnvT} {d : Nat} {K : AV → Mem → Prop} {M : Mem} {Z : Ch} {A : Nat → Int} {o u : Nat} (hd : 2 ≤ d) (o2 : o < 1000000000) (u1 : 0 < u) (u2 : u < 1000000000) (h : K (.int (iN 1), 0) (zA M (sZ (tfZ Z o u) 0) A)) : CT l E d m_Mod_tellsBy [(.ref 24, 41), (.long (lI o), 0), (.long (lI u), 0)] (zA M Z A) K := by
  refine CT.of pn_Mod (Nat.le_of_ble_eq_true rfl) ?_
  have key : ∀ (n a b : Nat), b < n → a < 1000000000 → b < 1000000000 → Nat.gcd a b = Nat.gcd o u → G l E d m_Mod_tellsBy 6 [(0, (.ref 24, 41)), (1, (.long (lI o), 0)), (3, (.long (lI u), 0)), (5, (.long (lI a), 0)), (7, (.long (lI b), 0))] [] (zA M Z A) K := by
    intro n
    induction n with
    | zero => intro a b hb; omega
    | succ n ih =>
      intro a b hb a2 b2 hg
      refine b_Mod_tellsBy_6 (by omega) ?_
      rw [lg_cmp_eq (lI (b : Int)), lI_eq (a := (b : Int)) (by omega) (by omega) (by omega) (by omega), lI_eq0 (a := (b : Int)) (by omega) (by omega)]
      refine ⟨fun c => ?_, fun c => ⟨c, ?_⟩⟩
      · have b0 : b = 0 := (by omega)
        subst b0
        rw [Nat.gcd_zero_right] at hg
        have gp : 0 < Nat.gcd o u := Nat.gcd_pos_of_pos_right o u1
        have n0 : ¬ lI (a : Int) = 0 := fun q => by rw [lI_eq0 (by omega) (by omega)] at q; omega
        have q1 : 0 ≤ (o : Int) / (a : Int) ∧ (o : Int) / (a : Int) ≤ o := ⟨Int.ediv_nonneg (by omega) (by omega), Int.ediv_le_self _ (by omega)⟩
        have q2 : 0 ≤ (u : Int) / (a : Int) ∧ (u : Int) / (a : Int) ≤ u := ⟨Int.ediv_nonneg (by omega) (by omega), Int.ediv_le_self _ (by omega)⟩
        refine ⟨n0, n0, ?_⟩
        rw [lI_div (by omega) (by omega) (by omega) (by omega), lI_div (by omega) (by omega) (by omega) (by omega), lI_small (by omega) (by omega), lI_small (by omega) (by omega), zA_u0, zA_u0]
        refine r_is (by omega) (by omega) (by omega) ⟨o01, ?_⟩
        unfold tfZ at h
        rw [← hg] at h
        push_cast at h
        exact h
      · have bp : 0 < b := (by omega)
        rw [lI_rem (by omega) (by omega) (by omega) (by omega)]
        have rl := Nat.mod_lt a bp
        have g1 : Nat.gcd b (a % b) = Nat.gcd o u := by rw [← hg, Nat.gcd_comm a b, Nat.gcd_rec b a, Nat.gcd_comm]
        have e1 : (a : Int) % (b : Int) = ((a % b : Nat) : Int) := by push_cast; rfl
        rw [e1]
        exact ih b (a % b) (by omega) b2 (by omega) g1
  exact b_Mod_tellsBy_0 (by omega) (key (u + 1) o u (by omega) o2 u2 rfl)
theorem r_bass {l : Launch} {E : EnvT} {d : Nat} {K : AV → Mem → Prop} {M : Mem} {C Z : Ch} {A : Nat → Int} (hd : 8 ≤ d) (hB : Z 0 21 = 0) (hW : WC C) (hR : RR C A 0) (hn : allOwC C 0 = 0 → K (.int (iN 0), 0) (zA M (sZ Z 6) A)) (hy : allOwC C 0 ≠ 0 → K (.int (iN 1), 0) (zA M (sZ (tfZ Z (bassC C (C 0 8).toNat).toNat (allOwC C 0).toNat) 0) A)) : CT l E d m_Mod_bass [(.ref 24, 41)] (zA M Z A) K := by
  refine CT.of pn_Mod (Nat.le_of_ble_eq_true rfl) ?_
  have hV := hW.1
  have hnn := hV.n
  have ar := allOwC_rng hV 0
  obtain ⟨n, hnn2⟩ : ∃ n : Nat, C 0 8 = n := ⟨(C 0 8).toNat, (by omega)⟩
  rw [hnn2, show ((n : Int)).toNat = n from rfl] at hy
  have br := bassC_rng hV n (by omega)
  have key : ∀ k, k ≤ n → G l E d m_Mod_bass 4 [(0, (.ref 24, 41)), (1, (.int (iN (bassC C k)), 0)), (2, (.int (iN k), 0))] [] (zA M Z A) K := by
    refine dn n ?_ (fun k hk ih => ?_)
    · refine b_Mod_bass_4 (by omega) ?_
      simp only [zA_1]
      rw [clA (z := 0) (j := 0 + 0) (by omega) (by omega), hR.1.1, hnn2]
      refine ⟨inA (by omega) (by omega), fun _ => r_allOwed (by omega) hB hW hR ?_, fun c => absurd ((iN_le (by omega) (by omega) (by omega) (by omega)).mpr (by omega)) c⟩
      rw [toI_int, iN_eq0 (by omega) (by omega)]
      refine ⟨fun c => r_allOwed (by omega) hB hW hR ?_, fun c => r_is (by omega) (by omega) (by omega) ⟨z01, hn c⟩⟩
      have hy := hy c
      obtain ⟨B, hB2⟩ : ∃ B : Nat, bassC C n = B := ⟨(bassC C n).toNat, (by omega)⟩
      obtain ⟨D, hD⟩ : ∃ D : Nat, allOwC C 0 = D := ⟨(allOwC C 0).toNat, (by omega)⟩
      rw [hB2, hD, show ((B : Int)).toNat = B from rfl, show ((D : Int)).toNat = D from rfl] at hy
      rw [toI_int, hB2, hD, iN_toL (by omega) (by omega), iN_toL (by omega) (by omega)]
      exact r_tellsBy (by omega) (by omega) (by omega) (by omega) ⟨o01, hy⟩
    · refine b_Mod_bass_4 (by omega) ?_
      simp only [zA_1]
      rw [clA (z := 0) (j := 0 + 0) (by omega) (by omega), hR.1.1, hnn2]
      refine ⟨inA (by omega) (by omega), fun c => absurd ((iN_le (by omega) (by omega) (by omega) (by omega)).mp c) (by omega), fun _ => c_of (B := 0) (w := 2) (by omega) hB (by omega) (by omega) (by omega) ?_⟩
      rw [(hR.2.1 k (by omega)).2.2.1]
      refine r_owedAll (by omega) hB hW hR (by omega) ?_
      rw [toI_int, toI_int, iN_mul, iN_add, iN_add]
      have e : bassC C (k + 1) = bassC C k + ifz (inS (C 0 9) k) (isOwC C k) := rfl
      have e2 : b2i (inS (C 0 9) k) * isOwC C k = ifz (inS (C 0 9) k) (isOwC C k) := by
        cases inS (C 0 9) k
        · simp [b2i, ifz]
        · simp [b2i, ifz]
      rw [e] at ih
      rw [e2]
      exact ih
  exact b_Mod_bass_0 (by omega) (key 0 (by omega))
/-- trays, the class's and the reference's -/
def TR (T : Mem) (Z : Ch) : Prop := ∀ j, j < 4 → Z 4 j = T (20 + j) 0 2 ∧ (T (20 + j) 0 2 ≠ -1 → Z 3 j = T (20 + j) 0 1) ∧ ∀ k : Nat, (k : Int) < T (20 + j) 0 2 → Z 5 (60 * j + k) = T (20 + j) 1 k
def ZF (Z Z' : Ch) : Prop := ∀ c, c ≠ 3 → c ≠ 4 → c ≠ 5 → Z' c = Z c
theorem cl4 {z : Int} {j : Nat} (h : z = j) (hj : j < 240) : (iN z).toNatClampNeg = j := by rw [h]; exact iN_clN (by omega)
theorem in4 {z : Int} (h0 : 0 ≤ z) (h : z < 4) : vp_in (iN z) 4 := iN_in h0 (by omega) (by omega)
theorem in240 {z : Int} (h0 : 0 ≤ z) (h : z < 240) : vp_in (iN z) 240 := iN_in h0 (by omega) (by omega)
theorem r_isTray {l : Launch} {E : EnvT} {d : Nat} {K : AV → Mem → Prop} {M : Mem} {z : Int} (hd : 1 ≤ d) (z1 : -2147483648 ≤ z) (z2 : z < 2147483648) (h : K (.int (iN (b2i (inB z 3))), 0) M) : CT l E d m_Mod_isTray [(.int (iN z), 0)] M K := by
  refine CT.of pn_Mod (Nat.le_of_ble_eq_true rfl) ?_
  refine b_Mod_isTray_0 hd ?_
  unfold inB at h
  rw [iN_lt0 z1 z2, iN_le (by omega) (by omega) z1 z2]
  refine ⟨fun c => ⟨z01, ?_⟩, fun c => ⟨fun c2 => ⟨z01, ?_⟩, fun c2 => ⟨o01, ?_⟩⟩⟩
  · rw [decide_eq_false (by omega)] at h; exact h
  · rw [decide_eq_false (by omega)] at h; exact h
  · rw [decide_eq_true (by omega)] at h; exact h
theorem r_cut {l : Launch} {E : EnvT} {d : Nat} {K : AV → Mem → Prop} {M : Mem} {x : Int64} {s : Int} (hd : 1 ≤ d) (s1 : 0 ≤ s) (s2 : s ≤ 3) (h : K (.long (cutF s x), 0) M) : CT l E d m_Mod_cut [(.long x, 0), (.int (iN s), 0)] M K := by
  refine CT.of pn_Mod (Nat.le_of_ble_eq_true rfl) ?_
  refine b_Mod_cut_0 hd ?_
  unfold cutF at h
  rw [iN_eq0 (by omega) (by omega), iN_eq (by omega) (by omega) (by omega) (by omega), iN_eq (by omega) (by omega) (by omega) (by omega)]
  refine ⟨fun c => ⟨fun c2 => ⟨fun c3 => ?_, fun c3 => ?_⟩, fun c2 => ?_⟩, fun c => ?_⟩
  · rw [if_neg c, if_neg c2, if_neg c3] at h; exact h
  · rw [if_neg c, if_neg c2, if_pos c3] at h; exact h
  · rw [if_neg c, if_pos c2] at h; exact h
  · rw [if_pos c] at h; exact h
theorem r_wrongPlace {l : Launch} {E : EnvT} {d : Nat} {K : AV → Mem → Prop} {M : Mem} {T : Mem} {Z : Ch} {A : Nat → Int} {a p : Int} (hd : 2 ≤ d) (hT : FT T) (hr : TR T Z) (a1 : -2147483648 ≤ a) (a2 : a < 2147483648) (p1 : -2147483648 ≤ p) (p2 : p < 2147483648) (h : K (.int (iN (cS T a p)), 0) (zA M Z A)) : CT l E d m_Mod_wrongPlace [(.ref 24, 41), (.int (iN a), 0), (.int (iN p), 0)] (zA M Z A) K := by
  refine CT.of pn_Mod (Nat.le_of_ble_eq_true rfl) ?_
  refine b_Mod_wrongPlace_0 (by omega) (r_isTray (by omega) a1 a2 ?_)
  rw [toI_int, b2i_z]
  unfold cS at h
  refine ⟨fun c => ?_, fun c => ?_⟩
  · rw [Bool.not_eq_false] at c
    have t : 0 ≤ a ∧ a ≤ 3 := of_decide_eq_true c
    rw [if_pos t] at h
    obtain ⟨j, rfl⟩ : ∃ j : Nat, a = j := ⟨a.toNat, (by omega)⟩
    rw [show ((j : Int)).toNat = j from rfl] at h
    have tb := (hT.at (j := j) (by omega)).2.1
    have rj := hr j (by omega)
    simp only [zA_c M Z A (show 4 ≠ 1 by decide)]
    rw [cl4 (z := (j : Int)) (j := j) rfl (by omega), rj.1, iN_eq (by omega) (by omega) (by omega) (by omega), iN_lt0 p1 p2, iN_lt p1 p2 (by omega) (by omega)]
    refine ⟨in4 (by omega) (by omega), fun c2 => ⟨fun c3 => ?_, fun c3 => ⟨in4 (by omega) (by omega), fun c4 => ?_, fun c4 => ?_⟩⟩, fun c2 => ?_⟩
    · rw [if_neg c2, if_neg (by omega)] at h; exact h
    · rw [if_neg c2, if_pos (by omega)] at h; exact h
    · rw [if_neg c2, if_neg (by omega)] at h; exact h
    · rw [if_pos c2] at h; exact h
  · have := of_decide_eq_false c
    rw [if_neg this] at h; exact h
theorem r_read {l : Launch} {E : EnvT} {d : Nat} {K : AV → Mem → Prop} {M : Mem} {T : Mem} {Z : Ch} {A : Nat → Int} {a p : Int} (hd : 3 ≤ d) (hT : FT T) (hr : TR T Z) (a1 : -2147483648 ≤ a) (a2 : a < 2147483648) (p1 : -2147483648 ≤ p) (p2 : p < 2147483648) (hn : cS T a p ≠ 0 → K (.long (lI (-1)), 0) (zA M (sZ Z (cS T a p)) A)) (hy : cS T a p = 0 → K (.long (lI (T (20 + a.toNat) 1 p.toNat)), 0) (zA M (sZ Z 0) A)) : CT l E d m_Mod_read [(.ref 24, 41), (.int (iN a), 0), (.int (iN p), 0)] (zA M Z A) K := by
  refine CT.of pn_Mod (Nat.le_of_ble_eq_true rfl) ?_
  have r := cS_rng T a p
  refine b_Mod_read_0 (by omega) (r_wrongPlace (by omega) hT hr a1 a2 p1 p2 ?_)
  have ez : upd2 Z 0 2 (cS T a p) = sZ Z (cS T a p) := rfl
  rw [toI_int, iN_small (by omega) (by omega), zA_u0, ez, zA_0, zA_c M _ A (show 5 ≠ 1 by decide), show sZ Z (cS T a p) 0 2 = cS T a p from upd2_same _ _ _ _, iN_le0 (by omega) (by omega)]
  refine ⟨fun c => ?_, fun c => hn (by omega)⟩
  have c0 : cS T a p = 0 := (by omega)
  have hy := hy c0
  rw [c0]
  have t := cS_0 c0
  obtain ⟨j, rfl⟩ : ∃ j : Nat, a = j := ⟨a.toNat, (by omega)⟩
  obtain ⟨k, rfl⟩ : ∃ k : Nat, p = k := ⟨p.toNat, (by omega)⟩
  rw [show ((j : Int)).toNat = j from rfl] at t hy
  rw [show ((k : Int)).toNat = k from rfl] at hy
  have tb := (hT.at (j := j) (by omega)).2.1
  simp only [iN_mul, iN_add]
  rw [cl4 (z := 60 * (j : Int) + (k : Int)) (j := 60 * j + k) (by omega) (by omega), show sZ Z 0 5 = Z 5 from upd2_c _ _ (by decide), (hr j (by omega)).2.2 k t.2.2.2]
  exact ⟨in240 (by omega) (by omega), hy⟩
theorem TR_u {T : Mem} {Z : Ch} {j k : Nat} {v : Int} (hT : FT T) (hr : TR T Z) (hj : j < 4) (hk : (k : Int) < T (20 + j) 0 2) : TR (setR T (20 + j) (upd2 (T (20 + j)) 1 k v)) (upd2 Z 5 (60 * j + k) v) := by
  intro i hi
  have ri := hr i hi
  have ti := (hT.at hi).2.1
  have tj := (hT.at hj).2.1
  rw [upd2_c _ _ (show 4 ≠ 5 by decide), upd2_c _ _ (show 3 ≠ 5 by decide)]
  by_cases e : i = j
  · subst e
    rw [setR_same, upd2_c _ _ (show 0 ≠ 1 by decide)]
    refine ⟨ri.1, ri.2.1, fun x hx => ?_⟩
    rw [upd2_at, upd2_at]
    by_cases e2 : x = k
    · rw [if_pos (by omega), if_pos (by omega)]
    · rw [if_neg (by omega), if_neg (by omega)]; exact ri.2.2 x hx
  · rw [setR_ne _ _ (show 20 + i ≠ 20 + j by omega)]
    refine ⟨ri.1, ri.2.1, fun x hx => ?_⟩
    rw [upd2_at, if_neg (by omega)]
    exact ri.2.2 x hx
theorem r_write {l : Launch} {E : EnvT} {d : Nat} {K : AV → Mem → Prop} {M : Mem} {T : Mem} {Z : Ch} {A : Nat → Int} {a p : Int} {x : Int64} (hd : 3 ≤ d) (hT : FT T) (hr : TR T Z) (a1 : -2147483648 ≤ a) (a2 : a < 2147483648) (p1 : -2147483648 ≤ p) (p2 : p < 2147483648) (hn : cS T a p ≠ 0 → K (.int (iN 0), 0) (zA M (sZ Z (cS T a p)) A)) (hy : cS T a p = 0 → ∀ Z', TR (setR T (20 + a.toNat) (upd2 (T (20 + a.toNat)) 1 p.toNat (cutF (T (20 + a.toNat) 0 1) x).toInt)) Z' → ZF Z Z' → K (.int (iN 1), 0) (zA M (sZ Z' 0) A)) : CT l E d m_Mod_write [(.ref 24, 41), (.int (iN a), 0), (.int (iN p), 0), (.long x, 0)] (zA M Z A) K := by
  refine CT.of pn_Mod (Nat.le_of_ble_eq_true rfl) ?_
  have r := cS_rng T a p
  refine b_Mod_write_0 (by omega) (r_wrongPlace (by omega) hT hr a1 a2 p1 p2 ?_)
  rw [toI_int, iN_eq0 (by omega) (by omega)]
  refine ⟨fun c => r_is (by omega) (by omega) (by omega) ?_, fun c => ?_⟩
  · rw [decide_eq_false c]
    exact ⟨z01, hn c⟩
  have hy := hy c
  rw [c]
  have t := cS_0 c
  obtain ⟨j, rfl⟩ : ∃ j : Nat, a = j := ⟨a.toNat, (by omega)⟩
  obtain ⟨k, rfl⟩ : ∃ k : Nat, p = k := ⟨p.toNat, (by omega)⟩
  rw [show ((j : Int)).toNat = j from rfl] at t hy
  rw [show ((k : Int)).toNat = k from rfl] at hy
  have tb := hT.at (j := j) (by omega)
  have tb2 := tb.2.1
  have rj := hr j (by omega)
  simp only [zA_c M Z A (show 3 ≠ 1 by decide), iN_mul, iN_add]
  rw [cl4 (z := (j : Int)) (j := j) rfl (by omega), rj.2.1 (by omega)]
  refine ⟨in4 (by omega) (by omega), r_cut (by omega) tb.1.1 tb.1.2 ⟨in240 (by omega) (by omega), ?_⟩⟩
  rw [cl4 (z := 60 * (j : Int) + (k : Int)) (j := 60 * j + k) (by omega) (by omega), toL_long, zA_uo M Z A (show 5 ≠ 1 by decide)]
  refine r_is (by omega) (by omega) (by omega) ⟨o01, hy _ (TR_u hT hr (by omega) t.2.2.2) (fun c h3 h4 h5 => ?_)⟩
  exact upd2_c _ _ h5
theorem r_tray {l : Launch} {E : EnvT} {d : Nat} {K : AV → Mem → Prop} {M : Mem} {T : Mem} {Z : Ch} {A : Nat → Int} {a s n : Int} (hd : 3 ≤ d) (hT : FT T) (hr : TR T Z) (a1 : -2147483648 ≤ a) (a2 : a < 2147483648) (s1 : -2147483648 ≤ s) (s2 : s < 2147483648) (n1 : -2147483648 ≤ n) (n2 : n < 2147483648) (hn : ¬ (0 ≤ a ∧ a ≤ 3 ∧ 0 ≤ s ∧ s ≤ 3 ∧ 0 ≤ n ∧ n ≤ 60) → K (.int (iN 0), 0) (zA M (sZ Z 1) A)) (hy : 0 ≤ a → a ≤ 3 → 0 ≤ s → s ≤ 3 → 0 ≤ n → n ≤ 60 → ∀ Z', TR (setR T (20 + a.toNat) (upd2 (upd2 (fillC (T (20 + a.toNat)) 1 0 60) 0 1 s) 0 2 n)) Z' → ZF Z Z' → K (.int (iN 1), 0) (zA M (sZ Z' 0) A)) : CT l E d m_Mod_tray [(.ref 24, 41), (.int (iN a), 0), (.int (iN s), 0), (.int (iN n), 0)] (zA M Z A) K := by
  refine CT.of pn_Mod (Nat.le_of_ble_eq_true rfl) ?_
  refine b_Mod_tray_0 (by omega) (r_isTray (by omega) a1 a2 ?_)
  rw [toI_int, b2i_z, iN_lt0 s1 s2, iN_lt (by omega) (by omega) s1 s2, iN_lt0 n1 n2, iN_le n1 n2 (by omega) (by omega)]
  refine ⟨fun c => r_is (by omega) (by omega) (by omega) ⟨z01, hn (fun q => ?_)⟩, fun c => ?_⟩
  · have := of_decide_eq_false c; omega
  rw [Bool.not_eq_false] at c
  have t : 0 ≤ a ∧ a ≤ 3 := of_decide_eq_true c
  refine ⟨fun c2 => r_is (by omega) (by omega) (by omega) ⟨z01, hn (by omega)⟩, fun c2 => ⟨fun c3 => r_is (by omega) (by omega) (by omega) ⟨z01, hn (by omega)⟩, fun c3 => ⟨fun c4 => r_is (by omega) (by omega) (by omega) ⟨z01, hn (by omega)⟩, fun c4 => ⟨fun c5 => ⟨in4 (by omega) (by omega), in4 (by omega) (by omega), ?_⟩, fun c5 => r_is (by omega) (by omega) (by omega) ⟨z01, hn (by omega)⟩⟩⟩⟩⟩
  have hy := hy (by omega) (by omega) (by omega) (by omega) (by omega) (by omega)
  obtain ⟨j, rfl⟩ : ∃ j : Nat, a = j := ⟨a.toNat, (by omega)⟩
  obtain ⟨m, rfl⟩ : ∃ m : Nat, n = m := ⟨n.toNat, (by omega)⟩
  rw [show ((j : Int)).toNat = j from rfl] at hy
  rw [cl4 (z := (j : Int)) (j := j) rfl (by omega), zA_uo M _ A (show 3 ≠ 1 by decide), zA_uo M _ A (show 4 ≠ 1 by decide), iN_small s1 s2, iN_small n1 n2]
  have key : ∀ (f k : Nat) (Y : Ch), k + f = m → (∀ c, c ≠ 5 → Y c = upd2 (upd2 Z 3 j s) 4 j (m : Int) c) → (∀ i, Y 5 i = if 60 * j ≤ i ∧ i < 60 * j + k then 0 else Z 5 i) → G l E d m_Mod_tray 49 [(0, (.ref 24, 41)), (1, (.int (iN (j : Int)), 0)), (3, (.int (iN (m : Int)), 0)), (4, (.int (iN (k : Int)), 0))] [] (zA M Y A) K := by
    intro f
    induction f with
    | zero =>
      intro k Y e1 e2 e3
      refine b_Mod_tray_49 (by omega) ⟨fun _ => r_is (by omega) (by omega) (by omega) ⟨o01, hy Y (fun i hi => ?_) (fun c h3 h4 h5 => ?_)⟩, fun c => absurd ((iN_le (by omega) (by omega) (by omega) (by omega)).mpr (by omega)) c⟩
      · have ri := hr i hi
        have ti := (hT.at hi).2.1
        rw [e2 4 (by decide), e2 3 (by decide)]
        by_cases e : i = j
        · subst e
          rw [setR_same]
          refine ⟨?_, fun _ => ?_, fun x hx => ?_⟩
          · rw [upd2_same, upd2_same]
          · rw [upd2_c _ _ (show 3 ≠ 4 by decide), upd2_same, upd2_k _ _ (by decide), upd2_same]
          · rw [upd2_same] at hx
            rw [e3, if_pos (by omega), upd2_c _ _ (show 1 ≠ 0 by decide), upd2_c _ _ (show 1 ≠ 0 by decide)]
            unfold fillC
            rw [if_pos ⟨rfl, by omega⟩]
        · rw [setR_ne _ _ (show 20 + i ≠ 20 + j by omega)]
          refine ⟨?_, fun q => ?_, fun x hx => ?_⟩
          · rw [upd2_k _ _ e, upd2_c _ _ (show 4 ≠ 3 by decide)]; exact ri.1
          · rw [upd2_c _ _ (show 3 ≠ 4 by decide), upd2_k _ _ e]; exact ri.2.1 q
          · rw [e3, if_neg (by omega)]; exact ri.2.2 x hx
      · rw [e2 c h5, upd2_c _ _ h4, upd2_c _ _ h3]
    | succ f ih =>
      intro k Y e1 e2 e3
      refine b_Mod_tray_49 (by omega) ⟨fun c => absurd ((iN_le (by omega) (by omega) (by omega) (by omega)).mp c) (by omega), fun _ => ?_⟩
      simp only [iN_mul, iN_add]
      refine ⟨in240 (by omega) (by omega), ?_⟩
      rw [cl4 (z := 60 * (j : Int) + (k : Int)) (j := 60 * j + k) (by omega) (by omega), zA_uo M _ A (show 5 ≠ 1 by decide), show (lI 0).toInt = 0 from rfl]
      refine ih (k + 1) _ (by omega) (fun c h5 => ?_) (fun i => ?_)
      · rw [upd2_c _ _ h5]; exact e2 c h5
      · rw [upd2_at, e3]
        split
        · rw [if_pos (by omega)]
        · split
          · rw [if_pos (by omega)]
          · rw [if_neg (by omega)]
  exact key m 0 _ (by omega) (fun c _ => rfl) (fun i => by rw [if_neg (by omega), upd2_c _ _ (show 5 ≠ 4 by decide), upd2_c _ _ (show 5 ≠ 3 by decide)])
