theorem r_pour {l : Launch} {E : EnvT} {d : Nat} {K : AV → Mem → Prop} {M : Mem} {T : Mem} {Z : Ch} {A : Nat → Int} {a p b q n : Int} (hd : 3 ≤ d) (hT : FT T) (hr : TR T Z) (a1 : -2147483648 ≤ a) (a2 : a < 2147483648) (p1 : -2147483648 ≤ p) (p2 : p < 2147483648) (b1 : -2147483648 ≤ b) (b2 : b < 2147483648) (q1 : -2147483648 ≤ q) (q2 : q < 2147483648) (n1 : -2147483648 ≤ n) (n2 : n < 2147483648) (hn : pS T a p b q n ≠ 0 → K (.int (iN 0), 0) (zA M (sZ Z (pS T a p b q n)) A)) (hy : pS T a p b q n = 0 → ∀ Z', TR (cpyM T (20 + a.toNat) 1 (20 + b.toNat) 1 p.toNat q.toNat n.toNat) Z' → ZF Z Z' → K (.int (iN 1), 0) (zA M (sZ Z' 0) A)) : CT l E d m_Mod_pour [(.ref 24, 41), (.int (iN a), 0), (.int (iN p), 0), (.int (iN b), 0), (.int (iN q), 0), (.int (iN n), 0)] (zA M Z A) K := by
  refine CT.of pn_Mod (Nat.le_of_ble_eq_true rfl) ?_
  unfold pS at hn hy
  have d1 : ¬ (0 ≤ a ∧ a ≤ 3 ∧ 0 ≤ b ∧ b ≤ 3 ∧ 0 ≤ p ∧ 0 ≤ q ∧ 0 ≤ n) → K (.int (iN 0), 0) (zA M (sZ Z 1) A) := by
    intro c
    rw [if_neg c] at hn
    exact hn (by omega)
  refine b_Mod_pour_0 (by omega) (r_isTray (by omega) a1 a2 ?_)
  rw [toI_int, b2i_z, iN_lt0 p1 p2, iN_lt0 q1 q2, iN_0le n1 n2]
  refine ⟨fun c => r_is (by omega) (by omega) (by omega) ⟨z01, d1 (fun q => ?_)⟩, fun c => r_isTray (by omega) b1 b2 ?_⟩
  · have := of_decide_eq_false c; omega
  rw [Bool.not_eq_false] at c
  have t : 0 ≤ a ∧ a ≤ 3 := of_decide_eq_true c
  rw [toI_int, b2i_z]
  refine ⟨fun c2 => r_is (by omega) (by omega) (by omega) ⟨z01, d1 (fun q => ?_)⟩, fun c2 => ⟨fun c3 => r_is (by omega) (by omega) (by omega) ⟨z01, d1 (by omega)⟩, fun c3 => ⟨fun c4 => r_is (by omega) (by omega) (by omega) ⟨z01, d1 (by omega)⟩, fun c4 => ⟨fun c5 => ?_, fun c5 => r_is (by omega) (by omega) (by omega) ⟨z01, d1 (by omega)⟩⟩⟩⟩⟩
  · have := of_decide_eq_false c2; omega
  rw [Bool.not_eq_false] at c2
  have t2 : 0 ≤ b ∧ b ≤ 3 := of_decide_eq_true c2
  rw [if_pos ⟨t.1, t.2, t2.1, t2.2, (by omega), (by omega), (by omega)⟩] at hn hy
  obtain ⟨i, rfl⟩ : ∃ i : Nat, a = i := ⟨a.toNat, (by omega)⟩
  obtain ⟨j, rfl⟩ : ∃ j : Nat, b = j := ⟨b.toNat, (by omega)⟩
  obtain ⟨y, rfl⟩ : ∃ y : Nat, p = y := ⟨p.toNat, (by omega)⟩
  obtain ⟨z, rfl⟩ : ∃ y : Nat, q = y := ⟨q.toNat, (by omega)⟩
  obtain ⟨m, rfl⟩ : ∃ y : Nat, n = y := ⟨n.toNat, (by omega)⟩
  rw [show ((i : Int)).toNat = i from rfl, show ((j : Int)).toNat = j from rfl] at hn hy
  rw [show ((y : Int)).toNat = y from rfl, show ((z : Int)).toNat = z from rfl, show ((m : Int)).toNat = m from rfl] at hy
  have ti := hT.at (j := i) (by omega)
  have tj := hT.at (j := j) (by omega)
  have bi := ti.2.1
  have bj := tj.2.1
  have ci := ti.1
  have cj := tj.1
  have ri := hr i (by omega)
  have rj := hr j (by omega)
  simp only [zA_c M Z A (show 3 ≠ 1 by decide), zA_c M Z A (show 4 ≠ 1 by decide)]
  rw [cl4 (z := (i : Int)) (j := i) rfl (by omega), cl4 (z := (j : Int)) (j := j) rfl (by omega), ri.1, rj.1, iN_eq (a := T (20 + i) 0 2) (by omega) (by omega) (by omega) (by omega)]
  refine ⟨in4 (by omega) (by omega), fun c6 => r_is (by omega) (by omega) (by omega) ⟨z01, ?_⟩, fun c6 => ⟨in4 (by omega) (by omega), ?_⟩⟩
  · rw [if_pos (by omega)] at hn; exact hn (by omega)
  rw [iN_eq (a := T (20 + j) 0 2) (by omega) (by omega) (by omega) (by omega)]
  refine ⟨fun c7 => ⟨in4 (by omega) (by omega), in4 (by omega) (by omega), ?_⟩, fun c7 => r_is (by omega) (by omega) (by omega) ⟨z01, ?_⟩⟩
  · rw [ri.2.1 c6, rj.2.1 c7, iN_eq (by omega) (by omega) (by omega) (by omega), iN_sub, iN_sub]
    refine ⟨fun c8 => ⟨in4 (by omega) (by omega), ?_⟩, fun c8 => r_is (by omega) (by omega) (by omega) ⟨z01, ?_⟩⟩
    · rw [if_neg (by omega), if_neg (by omega)] at hn hy
      rw [iN_lt (by omega) (by omega) (by omega) (by omega)]
      refine ⟨fun c9 => r_is (by omega) (by omega) (by omega) ⟨z01, ?_⟩, fun c9 => ⟨in4 (by omega) (by omega), ?_⟩⟩
      · rw [if_neg (by omega)] at hn; exact hn (by omega)
      rw [iN_le (by omega) (by omega) (by omega) (by omega)]
      refine ⟨fun c10 => ?_, fun c10 => r_is (by omega) (by omega) (by omega) ⟨z01, ?_⟩⟩
      · rw [if_pos (by omega)] at hy
        have hy := hy rfl
        have fin : ∀ Y : Ch, (∀ c, c ≠ 5 → Y c = Z c) → (∀ x, Y 5 x = if 60 * j + z ≤ x ∧ x < 60 * j + z + m then Z 5 (60 * i + y + (x - (60 * j + z))) else Z 5 x) → K (.int (iN 1), 0) (zA M (sZ Y 0) A) := by
          intro Y e2 e3
          refine hy Y (fun w hw => ?_) (fun c h3 h4 h5 => e2 c h5)
          have rw' := hr w hw
          have tw := (hT.at hw).2.1
          have u1 : cpyM T (20 + i) 1 (20 + j) 1 y z m (20 + w) 0 = T (20 + w) 0 := by
            unfold cpyM updC
            rw [if_neg (by omega)]
          rw [u1, e2 4 (by decide), e2 3 (by decide)]
          refine ⟨rw'.1, rw'.2.1, fun x hx => ?_⟩
          have u2 : cpyM T (20 + i) 1 (20 + j) 1 y z m (20 + w) 1 x = if w = j ∧ z ≤ x ∧ x < z + m then T (20 + i) 1 (y + (x - z)) else T (20 + w) 1 x := by
            unfold cpyM updC
            by_cases e : w = j
            · subst e
              rw [if_pos ⟨rfl, rfl⟩]
              unfold va_cpy
              by_cases c : z ≤ x ∧ x < z + m
              · rw [if_pos c, if_pos ⟨rfl, c⟩]
              · rw [if_neg c, if_neg (fun q => c q.2)]
            · rw [if_neg (by omega), if_neg (fun q => e q.1)]
          rw [u2, e3]
          by_cases c : w = j ∧ z ≤ x ∧ x < z + m
          · obtain ⟨rfl, c⟩ := c
            rw [if_pos (c := 60 * w + z ≤ _ ∧ _) (by omega), if_pos (c := w = w ∧ _) ⟨rfl, c⟩, show 60 * i + y + (60 * w + x - (60 * w + z)) = 60 * i + (y + (x - z)) by omega]
            exact ri.2.2 _ (by omega)
          · rw [if_neg c, if_neg (by omega)]
            exact rw'.2.2 x hx
        have rg : ∀ x, 60 * i + y ≤ x → x < 60 * i + y + m → -9223372036854775808 ≤ Z 5 x ∧ Z 5 x < 9223372036854775808 := by
          intro x x1 x2
          have e := ri.2.2 (x - 60 * i) (by omega)
          rw [show 60 * i + (x - 60 * i) = x by omega] at e
          rw [e]
          exact ti.2.2 _ (by omega)
        by_cases dir : z ≤ y
        · have key : ∀ (f k : Nat) (Y : Ch), k + f = m → (∀ c, c ≠ 5 → Y c = Z c) → (∀ x, Y 5 x = if 60 * j + z ≤ x ∧ x < 60 * j + z + k then Z 5 (60 * i + y + (x - (60 * j + z))) else Z 5 x) → G l E d m_Mod_pour 118 [(0, (.ref 24, 41)), (1, (.int (iN (i : Int)), 0)), (2, (.int (iN (y : Int)), 0)), (3, (.int (iN (j : Int)), 0)), (4, (.int (iN (z : Int)), 0)), (5, (.int (iN (m : Int)), 0)), (6, (.int (iN (k : Int)), 0))] [] (zA M Y A) K := by
            intro f
            induction f with
            | zero =>
              intro k Y e1 e2 e3
              have : k = m := (by omega)
              subst this
              exact b_Mod_pour_118 (by omega) ⟨fun _ => r_is (by omega) (by omega) (by omega) ⟨o01, fin Y e2 e3⟩, fun c => absurd ((iN_le (by omega) (by omega) (by omega) (by omega)).mpr (by omega)) c⟩
            | succ f ih =>
              intro k Y e1 e2 e3
              refine b_Mod_pour_118 (by omega) ⟨fun c => absurd ((iN_le (by omega) (by omega) (by omega) (by omega)).mp c) (by omega), fun _ => ⟨fun _ => ?_, fun c => absurd ((iN_le (by omega) (by omega) (by omega) (by omega)).mpr (by omega)) c⟩⟩
              simp only [iN_mul, iN_add]
              refine ⟨in240 (by omega) (by omega), in240 (by omega) (by omega), ?_⟩
              have er : Y 5 (60 * i + y + k) = Z 5 (60 * i + y + k) := by rw [e3, if_neg (by omega)]
              have rk := rg (60 * i + y + k) (by omega) (by omega)
              rw [cl4 (z := 60 * (i : Int) + (y : Int) + (k : Int)) (j := 60 * i + y + k) (by omega) (by omega), cl4 (z := 60 * (j : Int) + (z : Int) + (k : Int)) (j := 60 * j + z + k) (by omega) (by omega), zA_c M Y A (show 5 ≠ 1 by decide), er, lI_small rk.1 rk.2, zA_uo M _ A (show 5 ≠ 1 by decide)]
              refine ih (k + 1) _ (by omega) (fun c h5 => ?_) (fun x => ?_)
              · rw [upd2_c _ _ h5]; exact e2 c h5
              · rw [upd2_at, e3]
                by_cases cx : x = 60 * j + z + k
                · rw [if_pos cx, if_pos (by omega), show 60 * i + y + (x - (60 * j + z)) = 60 * i + y + k by omega]
                · rw [if_neg (by omega)]
                  by_cases cy : 60 * j + z ≤ x ∧ x < 60 * j + z + k
                  · rw [if_pos cy, if_pos (by omega)]
                  · rw [if_neg cy, if_neg (by omega)]
          exact key m 0 Z (by omega) (fun _ _ => rfl) (fun x => by rw [if_neg (by omega)])
        · have key : ∀ (f k : Nat) (Y : Ch), k + f = m → (∀ c, c ≠ 5 → Y c = Z c) → (∀ x, Y 5 x = if 60 * j + z + f ≤ x ∧ x < 60 * j + z + m then Z 5 (60 * i + y + (x - (60 * j + z))) else Z 5 x) → G l E d m_Mod_pour 118 [(0, (.ref 24, 41)), (1, (.int (iN (i : Int)), 0)), (2, (.int (iN (y : Int)), 0)), (3, (.int (iN (j : Int)), 0)), (4, (.int (iN (z : Int)), 0)), (5, (.int (iN (m : Int)), 0)), (6, (.int (iN (k : Int)), 0))] [] (zA M Y A) K := by
            intro f
            induction f with
            | zero =>
              intro k Y e1 e2 e3
              exact b_Mod_pour_118 (by omega) ⟨fun _ => r_is (by omega) (by omega) (by omega) ⟨o01, fin Y e2 e3⟩, fun c => absurd ((iN_le (by omega) (by omega) (by omega) (by omega)).mpr (by omega)) c⟩
            | succ f ih =>
              intro k Y e1 e2 e3
              refine b_Mod_pour_118 (by omega) ⟨fun c => absurd ((iN_le (by omega) (by omega) (by omega) (by omega)).mp c) (by omega), fun _ => ⟨fun c => absurd ((iN_le (by omega) (by omega) (by omega) (by omega)).mp c) (by omega), fun _ => ?_⟩⟩
              simp only [iN_mul, iN_add, iN_sub]
              refine ⟨in240 (by omega) (by omega), in240 (by omega) (by omega), ?_⟩
              have er : Y 5 (60 * i + y + f) = Z 5 (60 * i + y + f) := by rw [e3, if_neg (by omega)]
              have rk := rg (60 * i + y + f) (by omega) (by omega)
              rw [cl4 (z := 60 * (i : Int) + (y : Int) + ((m : Int) - 1 - (k : Int))) (j := 60 * i + y + f) (by omega) (by omega), cl4 (z := 60 * (j : Int) + (z : Int) + ((m : Int) - 1 - (k : Int))) (j := 60 * j + z + f) (by omega) (by omega), zA_c M Y A (show 5 ≠ 1 by decide), er, lI_small rk.1 rk.2, zA_uo M _ A (show 5 ≠ 1 by decide)]
              refine ih (k + 1) _ (by omega) (fun c h5 => ?_) (fun x => ?_)
              · rw [upd2_c _ _ h5]; exact e2 c h5
              · rw [upd2_at, e3]
                by_cases cx : x = 60 * j + z + f
                · rw [if_pos cx, if_pos (by omega), show 60 * i + y + (x - (60 * j + z)) = 60 * i + y + f by omega]
                · rw [if_neg (by omega)]
                  by_cases cy : 60 * j + z + (f + 1) ≤ x ∧ x < 60 * j + z + m
                  · rw [if_pos cy, if_pos (by omega)]
                  · rw [if_neg cy, if_neg (by omega)]
          exact key m 0 Z (by omega) (fun _ _ => rfl) (fun x => by rw [if_neg (by omega)])
      · rw [if_neg (by omega)] at hn; exact hn (by omega)
    · rw [if_neg (by omega), if_pos c8] at hn; exact hn (by omega)
  · rw [if_pos (by omega)] at hn; exact hn (by omega)
theorem r_wrongTray {l : Launch} {E : EnvT} {d : Nat} {K : AV → Mem → Prop} {M : Mem} {C Z : Ch} {T : Mem} {A : Nat → Int} {a t : Int} (hd : 5 ≤ d) (hB : Z 0 21 = 0) (hV : VB C) (hR : RR C A 0) (hT : FT T) (hr : TR T Z) (a1 : -2147483648 ≤ a) (a2 : a < 2147483648) (p1 : -2147483648 ≤ t) (p2 : t < 2147483648) (h : K (.int (iN (hS T C a t)), 0) (zA M Z A)) : CT l E d m_Mod_wrongTray [(.ref 24, 41), (.int (iN a), 0), (.int (iN t), 0)] (zA M Z A) K := by
  refine CT.of pn_Mod (Nat.le_of_ble_eq_true rfl) ?_
  have hnn := hV.n
  refine b_Mod_wrongTray_0 (by omega) (r_isLiving (by omega) hB hV hR a1 a2 ?_)
  unfold hS lS at h
  rw [toI_int, b2i_z]
  refine ⟨fun c => ?_, fun c => r_isTray (by omega) p1 p2 ?_⟩
  · rw [if_neg (c := livesB C a = true ∧ _) (fun q => by rw [c] at q; exact absurd q.1 (by decide))] at h; exact h
  rw [Bool.not_eq_false] at c
  have t1 := livesB_spec c
  rw [toI_int, b2i_z]
  refine ⟨fun c2 => ?_, fun c2 => ?_⟩
  · rw [Bool.not_eq_false] at c2
    have t2 : 0 ≤ t ∧ t ≤ 3 := of_decide_eq_true c2
    rw [if_pos (c := livesB C a = true ∧ _) ⟨c, t2⟩] at h
    obtain ⟨j, rfl⟩ : ∃ j : Nat, t = j := ⟨t.toNat, (by omega)⟩
    obtain ⟨s, rfl⟩ : ∃ s : Nat, a = s := ⟨a.toNat, (by omega)⟩
    rw [show ((j : Int)).toNat = j from rfl, show ((s : Int)).toNat = s from rfl] at h
    have tb := hT.at (j := j) (by omega)
    have tb2 := tb.2.1
    have rj := hr j (by omega)
    have le := hV.le s (by omega)
    have rs := hR.2.1 s t1.2
    simp only [zA_c M Z A (show 4 ≠ 1 by decide)]
    rw [cl4 (z := (j : Int)) (j := j) rfl (by omega), rj.1, iN_eq (by omega) (by omega) (by omega) (by omega)]
    refine ⟨in4 (by omega) (by omega), fun c3 => ⟨in4 (by omega) (by omega), c_of (B := 0) (w := 1) (by omega) hB (by omega) (by omega) (by omega) ?_⟩, fun c3 => ?_⟩
    · rw [rs.2.1, toI_int, iN_le (by omega) (by omega) (by omega) (by omega)]
      rw [if_neg c3] at h
      refine ⟨fun c4 => ?_, fun c4 => ?_⟩
      · rw [if_pos c4, if_pos rfl] at h
        obtain ⟨n, hl⟩ : ∃ n : Nat, C 4 s = n := ⟨(C 4 s).toNat, (by omega)⟩
        rw [hl, show ((n : Int)).toNat = n from rfl] at h
        have key : ∀ (m k : Nat), k + m = n → fnd (badC (T (20 + j))) n = fndF (badC (T (20 + j))) k m → G l E d m_Mod_wrongTray 48 [(0, (.ref 24, 41)), (1, (.int (iN s), 0)), (2, (.int (iN (j : Int)), 0)), (3, (.int (iN k), 0))] [] (zA M Z A) K := by
          intro m
          induction m with
          | zero =>
            intro k hk he
            have he : _ = (-1 : Int) := he
            refine b_Mod_wrongTray_48 (by omega) (c_of (B := 0) (w := 1) (by omega) hB (by omega) (by omega) (by omega) ?_)
            rw [rs.2.1, hl, toI_int]
            rw [if_pos he] at h
            exact ⟨fun _ => h, fun c => absurd ((iN_le (by omega) (by omega) (by omega) (by omega)).mpr (by omega)) c⟩
          | succ m ih =>
            intro k hk he
            have he : _ = (if badC (T (20 + j)) k = true then (k : Int) else fndF (badC (T (20 + j))) (k + 1) m) := he
            have bk := tb.2.2 k (by omega)
            refine b_Mod_wrongTray_48 (by omega) (c_of (B := 0) (w := 1) (by omega) hB (by omega) (by omega) (by omega) ?_)
            rw [rs.2.1, hl, toI_int]
            refine ⟨fun c => absurd ((iN_le (by omega) (by omega) (by omega) (by omega)).mp c) (by omega), fun _ => ?_⟩
            simp only [iN_mul, iN_add]
            refine ⟨in240 (by omega) (by omega), ?_⟩
            rw [cl4 (z := 60 * (j : Int) + (k : Int)) (j := 60 * j + k) (by omega) (by omega), zA_c M Z A (show 5 ≠ 1 by decide), rj.2.2 k (by omega)]
            refine r_isFrom (by omega) bk.1 bk.2 (by omega) (by omega) (by omega) (by omega) ?_
            rw [toI_int, b2i_z, decide_eq_false_iff_not]
            refine ⟨fun c => ih (k + 1) (by omega) ?_, fun c => ?_⟩
            · rw [if_neg (by unfold badC; simp; omega)] at he
              exact he
            · rw [if_pos (show badC (T (20 + j)) k = true from decide_eq_true (by omega))] at he
              rw [if_neg (by omega)] at h
              exact h
        exact key n 0 (by omega) rfl
      · rw [if_neg c4] at h; exact h
    · rw [if_pos c3] at h; exact h
  · have := of_decide_eq_false c2
    rw [if_neg (c := livesB C a = true ∧ _) (fun q => this q.2)] at h; exact h
theorem r_offBy {l : Launch} {E : EnvT} {d : Nat} {K : AV → Mem → Prop} {M : Mem} {C Z : Ch} {T : Mem} {A : Nat → Int} {s j k : Nat} (hd : 4 ≤ d) (hB : Z 0 21 = 0) (hV : VB C) (hR : RR C A 0) (hr : TR T Z) (hs : (s : Int) < C 0 8) (hj : j < 4) (hk : (k : Int) < C 4 s) (hk2 : (k : Int) < T (20 + j) 0 2) (b1 : -12 ≤ T (20 + j) 1 k) (b2 : T (20 + j) 1 k ≤ 2000) (h : K (.int (iN (offC T C s j k)), 0) (zA M Z A)) : CT l E d m_Mod_offBy [(.ref 24, 41), (.int (iN s), 0), (.int (iN j), 0), (.int (iN k), 0)] (zA M Z A) K := by
  refine CT.of pn_Mod (Nat.le_of_ble_eq_true rfl) ?_
  have hnn := hV.n
  have le := hV.le s (by omega)
  refine b_Mod_offBy_0 (by omega) ?_
  simp only [iN_mul, iN_add]
  refine ⟨in240 (by omega) (by omega), r_sungAt (by omega) hB hV hR hs hk ?_⟩
  rw [cl4 (z := 60 * (j : Int) + (k : Int)) (j := 60 * j + k) (by omega) (by omega), zA_c M Z A (show 5 ≠ 1 by decide), (hr j hj).2.2 k hk2, l2i (by omega) (by omega), toI_int, iN_sub]
  exact h
