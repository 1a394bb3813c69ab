theorem r_draw {l : Launch} {E : EnvT} {d : Nat} {K : AV → Mem → Prop} {M : Mem} {Z : Ch} {A : Nat → Int} {n : Int} (hd : 1 ≤ d) (l1 : 0 ≤ Z 0 27) (l2 : Z 0 27 < 65536) (n1 : 1 ≤ n) (n2 : n ≤ 100) (h : K (.int (iN (drawV (Z 0 27) / 8 % n)), 0) (zA M (upd2 Z 0 27 (drawV (Z 0 27))) A)) : CT l E d m_Mod_draw [(.ref 24, 41), (.int (iN n), 0)] (zA M Z A) K := by
  refine CT.of pn_Mod (Nat.le_of_ble_eq_true rfl) ?_
  have dr := drawV_rng (Z 0 27)
  have e : iR (iN (Z 0 27) * iN 2971 + iN 11173) (iN 65536) = iN (drawV (Z 0 27)) := by
    rw [iN_mul, iN_add, iN_rem (by omega) (by omega) (by omega) (by omega)]
    rfl
  have d1 : 0 ≤ drawV (Z 0 27) / 8 ∧ drawV (Z 0 27) / 8 < 65536 := ⟨Int.ediv_nonneg (by omega) (by omega), by omega⟩
  refine b_Mod_draw_0 (by omega) ⟨by decide +kernel, ?_⟩
  rw [zA_0, e, iN_small (by omega) (by omega), zA_u0]
  refine b_Mod_draw_20 (by omega) ⟨by decide +kernel, fun q => ?_, ?_⟩
  · rw [iN_eq0 (by omega) (by omega)] at q; omega
  rw [zA_0, upd2_same, iN_div (by omega) (by omega) (by omega) (by omega), iN_rem (by omega) (by omega) (by omega) (by omega)]
  exact h
/-- how many of the s-th on are alive, and how many bits -/
def lvN (C : Ch) : Nat → Nat → Int
  | _, 0 => 0
  | s, m + 1 => b2i (livesB C s) + lvN C (s + 1) m
def dnN (x : Nat) : Nat → Nat → Int
  | _, 0 => 0
  | s, m + 1 => b2i (x.testBit s) + dnN x (s + 1) m
theorem dnN_8 : ∀ x : Nat, x < 256 → dnN x 0 8 = popc x := by decide +kernel
theorem dnN_add (x : Nat) : ∀ (a s b : Nat), dnN x s (a + b) = dnN x s a + dnN x (s + a) b
  | 0, s, b => by rw [Nat.zero_add]; show _ = 0 + dnN x (s + 0) b; rw [Nat.add_zero]; omega
  | a + 1, s, b => by
    rw [show a + 1 + b = (a + b) + 1 by omega]
    show b2i (x.testBit s) + dnN x (s + 1) (a + b) = b2i (x.testBit s) + dnN x (s + 1) a + dnN x (s + (a + 1)) b
    rw [dnN_add x a (s + 1) b, show s + 1 + a = s + (a + 1) by omega]
    omega
theorem dnN_0 {x : Nat} : ∀ (m s : Nat), (∀ t, s ≤ t → t < s + m → x.testBit t = false) → dnN x s m = 0
  | 0, _, _ => rfl
  | m + 1, s, h => by
    show b2i (x.testBit s) + dnN x (s + 1) m = 0
    rw [h s (by omega) (by omega), dnN_0 m (s + 1) (fun t h1 h2 => h t (by omega) (by omega))]
    rfl
theorem lvN_dn {C : Ch} : ∀ (m s : Nat), ((s + m : Nat) : Int) ≤ C 0 8 → lvN C s m + dnN (C 0 12).toNat s m = m
  | 0, _, _ => rfl
  | m + 1, s, h => by
    have ih := lvN_dn (C := C) m (s + 1) (by push_cast at h ⊢; omega)
    show b2i (livesB C s) + lvN C (s + 1) m + (b2i ((C 0 12).toNat.testBit s) + dnN (C 0 12).toNat (s + 1) m) = _
    have e : livesB C s = !(C 0 12).toNat.testBit s := by
      unfold livesB
      rw [decide_eq_true (by push_cast at h; omega), Bool.true_and]
      rfl
    rw [e]
    cases (C 0 12).toNat.testBit s <;> simp [b2i] <;> omega
theorem many_lv {C : Ch} (hW : WC C) {n : Nat} (hn : C 0 8 = n) : manyC C = lvN C 0 n := by
  have hV := hW.1
  have h8 := hV.n
  have m := hV.ms 12 (by omega) (by omega)
  have a := lvN_dn (C := C) n 0 (by push_cast; omega)
  have b := dnN_8 (C 0 12).toNat (by omega)
  have c := dnN_add (C 0 12).toNat n 0 (8 - n)
  rw [show n + (8 - n) = 8 by omega] at c
  have e := dnN_0 (x := (C 0 12).toNat) (8 - n) (0 + n) (fun t h1 h2 => hW.2.2.2.2.2.2.2.2.1 12 (by omega) (by omega) t (by omega))
  unfold manyC
  omega
theorem livAt_some {C : Ch} : ∀ (m s : Nat) (k : Int), 0 ≤ k → k < lvN C s m → livAt C s m k ≠ -1
  | 0, _, k, h1, h2 => by
    have h2 : k < 0 := h2
    omega
  | m + 1, s, k, h1, h2 => by
    have h2 : k < b2i (livesB C s) + lvN C (s + 1) m := h2
    show (if livesB C s then (if k = 0 then (s : Int) else livAt C (s + 1) m (k - 1)) else livAt C (s + 1) m k) ≠ -1
    cases c : livesB C s with
    | true =>
      rw [c] at h2
      have h2 : k < 1 + lvN C (s + 1) m := h2
      rw [if_pos rfl]
      split
      · omega
      · exact livAt_some m (s + 1) (k - 1) (by omega) (by omega)
    | false =>
      rw [c] at h2
      have h2 : k < 0 + lvN C (s + 1) m := h2
      rw [if_neg (by simp)]
      exact livAt_some m (s + 1) k h1 (by omega)
theorem r_livingAt {l : Launch} {E : EnvT} {d : Nat} {K : AV → Mem → Prop} {M : Mem} {C Z : Ch} {A : Nat → Int} {k : Int} (hd : 4 ≤ d) (hB : Z 0 21 = 0) (hW : WC C) (hR : RR C A 0) (h1 : 0 ≤ k) (h2 : k < manyC C) (h : K (.int (iN (livAt C 0 (C 0 8).toNat k)), 0) (zA M Z A)) : CT l E d m_Mod_livingAt [(.ref 24, 41), (.int (iN k), 0)] (zA M Z A) K := by
  refine CT.of pn_Mod (Nat.le_of_ble_eq_true rfl) ?_
  have hV := hW.1
  have h8 := hV.n
  obtain ⟨n, hn⟩ : ∃ n : Nat, C 0 8 = n := ⟨(C 0 8).toNat, (by omega)⟩
  rw [many_lv hW hn] at h2
  rw [hn, show ((n : Int)).toNat = n from rfl] at h
  have up : ∀ (m s : Nat), lvN C s m ≤ m := by
    intro m
    induction m with
    | zero => intro s; exact Int.le_refl _
    | succ m ih =>
      intro s
      have := ih (s + 1)
      show b2i (livesB C s) + lvN C (s + 1) m ≤ _
      cases livesB C s <;> simp [b2i] <;> omega
  have key : ∀ (m s : Nat) (j : Int), s + m = n → 0 ≤ j → j < lvN C s m → livAt C 0 n k = livAt C s m j → G l E d m_Mod_livingAt 4 [(0, (.ref 24, 41)), (2, (.int (iN j), 0)), (3, (.int (iN (s : Int)), 0))] [] (zA M Z A) K := by
    intro m
    induction m with
    | zero =>
      intro s j e1 j1 j2 he
      have j2 : j < 0 := j2
      omega
    | succ m ih =>
      intro s j e1 j1 j2 he
      have um := up (m + 1) s
      have he : _ = (if livesB C s then (if j = 0 then (s : Int) else livAt C (s + 1) m (j - 1)) else livAt C (s + 1) m j) := he
      have j3 : j < b2i (livesB C s) + lvN C (s + 1) m := j2
      have el : livesB C s = !inS (C 0 12) s := by
        unfold livesB
        rw [decide_eq_true (by omega), Bool.true_and]
        rfl
      refine b_Mod_livingAt_4 (by omega) (c_isDead (by omega) hB hV hR (by omega) ?_)
      simp only [toI_int, iN_sub, iN_add]
      rw [b2i_z, iN_le0 (by omega) (by omega)]
      cases hd' : inS (C 0 12) s with
      | true =>
        rw [el, hd'] at he j3
        have j3 : j < 0 + lvN C (s + 1) m := j3
        rw [if_neg (by simp)] at he
        refine ⟨fun _ => c_isDead (by omega) hB hV hR (by omega) ?_, fun c => by cases c⟩
        rw [toI_int, b2i_z, hd']
        refine ⟨fun c => (by cases c), fun _ => ?_⟩
        rw [Int.sub_zero]
        exact ih (s + 1) j (by omega) j1 (by omega) he
      | false =>
        rw [el, hd'] at he j3
        have j3 : j < 1 + lvN C (s + 1) m := j3
        rw [if_pos (show (!false) = true from rfl)] at he
        refine ⟨fun c => absurd rfl c, fun _ => ⟨fun c2 => ?_, fun c2 => c_isDead (by omega) hB hV hR (by omega) ?_⟩⟩
        · rw [if_pos (by omega)] at he
          rw [he] at h
          exact h
        · rw [toI_int, b2i_z, hd']
          refine ⟨fun _ => ?_, fun c => absurd rfl c⟩
          rw [if_neg (by omega)] at he
          exact ih (s + 1) (j - 1) (by omega) (by omega) (by omega) he
  exact b_Mod_livingAt_0 (by omega) (key n 0 k (by omega) h1 h2 rfl)
theorem RR_cp {C : Ch} {A A' : Nat → Int} {B B' : Nat} (hV : VB C) (h : RR C A B) (e : ∀ j, j < 238 → A' (B' + j) = wr (A (B + j))) : RR C A' B' := by
  obtain ⟨⟨f0, f1, f2, f3, f5⟩, hs, hn, hh, hw⟩ := h
  have n8 := hV.n
  have w8 := hV.w
  have hu := hV.hum
  have su := hV.sun
  have pd := hV.paid
  have at' : ∀ (x y : Nat) (v : Int), (∃ j, j < 238 ∧ y = B + j ∧ x = B' + j) → A y = v → -2147483648 ≤ v → v < 2147483648 → A' x = v := by
    rintro x y v ⟨j, hj, rfl, rfl⟩ h1 h2 h3
    rw [e j hj, h1, wr_id h2 h3]
  have b01 : ∀ b : Bool, -2147483648 ≤ b2i b ∧ b2i b < 2147483648 := fun b => by cases b <;> simp [b2i]
  refine ⟨⟨at' _ _ _ ⟨0, (by omega), rfl, rfl⟩ f0 (by omega) (by omega), at' _ _ _ ⟨1, (by omega), rfl, rfl⟩ f1 (by omega) (by omega), at' _ _ _ ⟨2, (by omega), rfl, rfl⟩ f2 (by omega) (by omega), at' _ _ _ ⟨3, (by omega), rfl, rfl⟩ f3 (by omega) (by omega), at' _ _ _ ⟨5, (by omega), rfl, rfl⟩ f5 (by omega) (by omega)⟩, fun s s1 => ?_, fun s k s1 k1 => ?_, fun i hi => ?_, fun k hk => ?_⟩
  · obtain ⟨g0, g1, g2, g3, g4, g5, g6⟩ := hs s s1
    have pu := hV.pu s (by omega)
    have le := hV.le s (by omega)
    have he := hV.he s (by omega)
    exact ⟨at' _ _ _ ⟨6 + 8 * s + 0, (by omega), (by omega), (by omega)⟩ g0 (by omega) (by omega), at' _ _ _ ⟨6 + 8 * s + 1, (by omega), (by omega), (by omega)⟩ g1 (by omega) (by omega), at' _ _ _ ⟨6 + 8 * s + 2, (by omega), (by omega), (by omega)⟩ g2 (b01 _).1 (b01 _).2, at' _ _ _ ⟨6 + 8 * s + 3, (by omega), (by omega), (by omega)⟩ g3 (b01 _).1 (b01 _).2, at' _ _ _ ⟨6 + 8 * s + 4, (by omega), (by omega), (by omega)⟩ g4 (b01 _).1 (b01 _).2, at' _ _ _ ⟨6 + 8 * s + 5, (by omega), (by omega), (by omega)⟩ g5 (by omega) (by omega), at' _ _ _ ⟨6 + 8 * s + 6, (by omega), (by omega), (by omega)⟩ g6 (b01 _).1 (b01 _).2⟩
  · have le := hV.le s (by omega)
    have no := hV.no (6 * s + k) (by omega)
    exact at' _ _ _ ⟨70 + (6 * s + k), (by omega), (by omega), (by omega)⟩ (hn s k s1 k1) (by omega) (by omega)
  · have ho := hV.ho i hi
    have de := hV.de i hi
    exact ⟨at' _ _ _ ⟨118 + i, (by omega), (by omega), (by omega)⟩ (hh i hi).1 (by omega) (by omega), at' _ _ _ ⟨166 + i, (by omega), (by omega), (by omega)⟩ (hh i hi).2 (by omega) (by omega)⟩
  · have wa := hV.wa k (by omega)
    have wb := hV.wb k (by omega)
    have wm := hV.wm k (by omega)
    exact ⟨at' _ _ _ ⟨214 + 3 * k, (by omega), (by omega), (by omega)⟩ (hw k hk).1 (by omega) (by omega), at' _ _ _ ⟨214 + 3 * k + 1, (by omega), (by omega), (by omega)⟩ (hw k hk).2.1 (by omega) (by omega), at' _ _ _ ⟨214 + 3 * k + 2, (by omega), (by omega), (by omega)⟩ (hw k hk).2.2 (by omega) (by omega)⟩
def cpA (A A' : Nat → Int) (w x y : Nat) : Prop := ∀ j, A' j = if w * y ≤ j ∧ j < w * y + w then wr (A (w * x + (j - w * y))) else A j
def cpZ (Z Z' : Ch) (x y : Nat) : Prop := (∀ c, c ≠ 2 → Z' c = Z c) ∧ ∀ j, Z' 2 j = if 8 * y ≤ j ∧ j < 8 * y + 8 then (lI (Z 2 (8 * x + (j - 8 * y)))).toInt else Z 2 j
theorem r_copies {l : Launch} {E : EnvT} {d : Nat} {K : AV → Mem → Prop} {M : Mem} {Z : Ch} {A : Nat → Int} {x y : Nat} (hd : 1 ≤ d) (hx : x ≤ 5) (hy : y ≤ 5) (hxy : x ≠ y) (h : ∀ Z' A', cpA A A' 602 x y → cpZ Z Z' x y → K (.null, 0) (zA M Z' A')) : CT l E d m_Mod_copies [(.ref 24, 41), (.int (iN (x : Int)), 0), (.int (iN (y : Int)), 0)] (zA M Z A) K := by
  refine CT.of pn_Mod (Nat.le_of_ble_eq_true rfl) ?_
  have names : ∀ (f k : Nat) (Y : Ch) (A' : Nat → Int), k + f = 8 → cpA A A' 602 x y → (∀ c, c ≠ 2 → Y c = Z c) → (∀ j, Y 2 j = if 8 * y ≤ j ∧ j < 8 * y + k then (lI (Z 2 (8 * x + (j - 8 * y)))).toInt else Z 2 j) → G l E d m_Mod_copies 41 [(0, (.ref 24, 41)), (1, (.int (iN (x : Int)), 0)), (2, (.int (iN (y : Int)), 0)), (3, (.int (iN (k : Int)), 0))] [] (zA M Y A') K := by
    intro f
    induction f with
    | zero =>
      intro k Y A' e1 e2 e3 e4
      have : k = 8 := (by omega)
      subst this
      exact b_Mod_copies_41 (by omega) ⟨fun _ => h Y A' e2 ⟨e3, e4⟩, fun c => absurd ((iN_le (by omega) (by omega) (by omega) (by omega)).mpr (by omega)) c⟩
    | succ f ih =>
      intro k Y A' e1 e2 e3 e4
      refine b_Mod_copies_41 (by omega) ⟨fun c => absurd ((iN_le (by omega) (by omega) (by omega) (by omega)).mp c) (by omega), fun _ => ?_⟩
      simp only [iN_mul, iN_add]
      refine ⟨iN_in (by omega) (by omega) (by omega), iN_in (by omega) (by omega) (by omega), ?_⟩
      rw [cl4 (z := 8 * (x : Int) + (k : Int)) (j := 8 * x + k) (by omega) (by omega), cl4 (z := 8 * (y : Int) + (k : Int)) (j := 8 * y + k) (by omega) (by omega), zA_c M Y A' (show 2 ≠ 1 by decide), zA_uo M Y A' (show 2 ≠ 1 by decide), e4, if_neg (by omega)]
      refine ih (k + 1) _ A' (by omega) e2 (fun c hc => by rw [upd2_c _ _ hc]; exact e3 c hc) (fun j => ?_)
      rw [upd2_at, e4]
      by_cases c : j = 8 * y + k
      · rw [if_pos c, if_pos (by omega), show 8 * x + (j - 8 * y) = 8 * x + k by omega]
      · rw [if_neg c]
        by_cases c2 : 8 * y ≤ j ∧ j < 8 * y + k
        · rw [if_pos c2, if_pos (by omega)]
        · rw [if_neg c2, if_neg (by omega)]
  have key : ∀ (f k : Nat) (A' : Nat → Int), k + f = 602 → (∀ j, A' j = if 602 * y ≤ j ∧ j < 602 * y + k then wr (A (602 * x + (j - 602 * y))) else A j) → G l E d m_Mod_copies 2 [(0, (.ref 24, 41)), (1, (.int (iN (x : Int)), 0)), (2, (.int (iN (y : Int)), 0)), (3, (.int (iN (k : Int)), 0))] [] (zA M Z A') K := by
    intro f
    induction f with
    | zero =>
      intro k A' e1 e2
      have : k = 602 := (by omega)
      subst this
      exact b_Mod_copies_2 (by omega) ⟨fun _ => names 8 0 Z A' (by omega) e2 (fun _ _ => rfl) (fun j => by rw [if_neg (by omega)]), fun c => absurd ((iN_le (by omega) (by omega) (by omega) (by omega)).mpr (by omega)) c⟩
    | succ f ih =>
      intro k A' e1 e2
      refine b_Mod_copies_2 (by omega) ⟨fun c => absurd ((iN_le (by omega) (by omega) (by omega) (by omega)).mp c) (by omega), fun _ => ?_⟩
      simp only [iN_mul, iN_add]
      refine ⟨inA (by omega) (by omega), inA (by omega) (by omega), ?_⟩
      rw [clA (z := 602 * (x : Int) + (k : Int)) (j := 602 * x + k) (by omega) (by omega), clA (z := 602 * (y : Int) + (k : Int)) (j := 602 * y + k) (by omega) (by omega), zA_1, zA_u, e2, if_neg (by omega)]
      refine ih (k + 1) _ (by omega) (fun j => ?_)
      rw [updP_at, e2]
      by_cases c : j = 602 * y + k
      · rw [if_pos c, if_pos (by omega), show 602 * x + (j - 602 * y) = 602 * x + k by omega]
        rfl
      · rw [if_neg c]
        by_cases c2 : 602 * y ≤ j ∧ j < 602 * y + k
        · rw [if_pos c2, if_pos (by omega)]
        · rw [if_neg c2, if_neg (by omega)]
  exact b_Mod_copies_0 (by omega) (key 602 0 A (by omega) (fun j => by rw [if_neg (by omega)]))
theorem r_mark {l : Launch} {E : EnvT} {d : Nat} {K : AV → Mem → Prop} {M : Mem} {Z : Ch} {A : Nat → Int} {k : Nat} (hd : 2 ≤ d) (hk : Z 0 33 = k) (k3 : k ≤ 3) (hn : k = 3 → K (.int (iN (-1)), 0) (zA M (sZ Z 4) A)) (hy : k < 3 → ∀ Z' A', cpA A A' 602 0 (k + 1) → cpZ (upd2 Z 0 33 ((k + 1 : Nat) : Int)) Z' 0 (k + 1) → K (.int (iN ((k : Int) + 1)), 0) (zA M (sZ Z' 0) A')) : CT l E d m_Mod_mark [(.ref 24, 41)] (zA M Z A) K := by
  refine CT.of pn_Mod (Nat.le_of_ble_eq_true rfl) ?_
  refine b_Mod_mark_0 (by omega) ?_
  simp only [zA_0, hk, iN_add]
  rw [iN_eq (by omega) (by omega) (by omega) (by omega), iN_small (by omega) (by omega), zA_u0, zA_0, upd2_same, show (k : Int) + 1 = ((k + 1 : Nat) : Int) from rfl]
  refine ⟨fun c => r_copies (x := 0) (y := k + 1) (by omega) (by omega) (by omega) (by omega) (fun Z' A' h1 h2 => ?_), fun c => r_refuse (by omega) (by omega) (by omega) (hn (by omega))⟩
  rw [zA_0, h2.1 0 (by decide), upd2_same]
  exact r_gives (by omega) (hy (by omega) Z' A' h1 h2)
theorem r_undo {l : Launch} {E : EnvT} {d : Nat} {K : AV → Mem → Prop} {M : Mem} {Z : Ch} {A : Nat → Int} {k : Nat} (hd : 2 ≤ d) (hk : Z 0 33 = k) (k3 : k ≤ 3) (hn : k = 0 → K (.int (iN (-1)), 0) (zA M (sZ Z 6) A)) (hy : ∀ j : Nat, k = j + 1 → ∀ Z' A', cpA A A' 602 (j + 1) 0 → cpZ Z Z' (j + 1) 0 → K (.int (iN (j : Int)), 0) (zA M (sZ (upd2 Z' 0 33 j) 0) A')) : CT l E d m_Mod_undo [(.ref 24, 41)] (zA M Z A) K := by
  refine CT.of pn_Mod (Nat.le_of_ble_eq_true rfl) ?_
  refine b_Mod_undo_0 (by omega) ?_
  rw [zA_0, hk, iN_eq0 (by omega) (by omega)]
  refine ⟨fun c => r_copies (x := k) (y := 0) (by omega) (by omega) (by omega) (by omega) (fun Z' A' h1 h2 => ?_), fun c => r_refuse (by omega) (by omega) (by omega) (hn (by omega))⟩
  obtain ⟨j, rfl⟩ : ∃ j, k = j + 1 := ⟨k - 1, (by omega)⟩
  rw [zA_0, h2.1 0 (by decide), hk, iN_sub, show ((j + 1 : Nat) : Int) - 1 = (j : Int) by omega, iN_small (by omega) (by omega), zA_u0, zA_0, upd2_same]
  exact r_gives (by omega) (hy j rfl Z' A' h1 h2)
