theorem iR_nx {k n : Nat} (hn : 1 ≤ n) (hn8 : n ≤ 8) (hk : k < n) : iR (iN (k : Int) + iN 1) (iN (n : Int)) = iN (((k + 1) % n : Nat) : Int) := by
  rw [iN_add, iN_rem (by omega) (by omega) (by omega) (by omega)]
  rfl
theorem c_clearRing2 {l : Launch} {E : EnvT} {d : Nat} {K : AV → Mem → Prop} {M : Mem} {r r2 : Nat} {C : Ch} {n len : Nat} {P : Nat → Int} (hd : 3 ≤ d) (hW : WC C) (hr : r2 ≠ r) (hn : C 0 8 = n) (hl : 1 ≤ len) (l8 : len ≤ 8) (hPe : M r2 4 = P) (hP : PV C n len P) (h : K (.int (iN (ringMin C P len len)), 0) (setR M r (settleC (ringOff P len (ringMin C P len len) len 0 C)))) : CT l E d m_Choir_clearRing [(.ref r, 11), (.ref r2, 34), (.int (iN len), 0)] (setR M r C) K := by
  refine CT.of pn_Choir (Nat.le_of_ble_eq_true rfl) ?_
  have hV := hW.1
  have hnn := hV.n
  have n8 : n ≤ 8 := (by omega)
  refine b_Choir_clearRing_0 (by omega) ?_
  have hrm := fun k => ringMin_nn hV (P := P) (len := len) (fun k hk => by have := hP.1 k hk; omega) k
  have key2 : ∀ (m k : Nat) (D : Ch), k + m = len → RG C D P len k → ringOff P len (ringMin C P len len) len 0 C = ringOff P len (ringMin C P len len) m k D → G l E d m_Choir_clearRing 43 [(0, (.ref r, 11)), (1, (.ref r2, 34)), (2, (.int (iN len), 0)), (3, (.int (iN (ringMin C P len len)), 0)), (4, (.int (iN k), 0))] [] (setR M r D) K := by
    intro m
    induction m with
    | zero =>
      intro k D hk hD he
      refine b_Choir_clearRing_43 (by omega) ⟨fun _ => c_settle (by omega) hD.1.1 ?_, fun c => absurd ((iN_le (by omega) (by omega) (by omega) (by omega)).mpr (by omega)) c⟩
      rw [he] at h
      exact h
    | succ m ih =>
      intro k D hk hD he
      obtain ⟨i, b, hb, b8, hs, i8, o1, o2, h'⟩ := hD.step hV hn hP (by omega)
      have d0 := hD.2.2.1
      rw [d0, hn] at b8
      have hlt : (k + 1) % len < len := Nat.mod_lt _ (by omega)
      have q1 := hP.1 k (by omega)
      refine b_Choir_clearRing_43 (by omega) ⟨fun c => absurd ((iN_le (by omega) (by omega) (by omega) (by omega)).mp c) (by omega), fun _ => ?_⟩
      rw [iR_nx hl l8 (by omega), iN_clN (by omega), iN_clN (by omega), setR_ne M D hr, hPe, hb]
      refine ⟨iN_in (by omega) (by omega) (by omega), by rw [iN_eq0 (by omega) (by omega)]; omega, iN_in (by omega) (by omega) (by omega), c_slotOfS (by omega) hD.1.1 (by omega) (by omega) (by omega) ?_⟩
      rw [hs, toI_int, iN_eq (by omega) (by omega) (by omega) (by omega), iN_add]
      rw [ringOff_step (C := C) hb hs] at he
      exact ⟨fun c => absurd c (by omega), fun _ => c_takeOff (by omega) hD.1.1 i8 o1 o2 (ih (k + 1) _ (by omega) h' he)⟩
  have key1 : ∀ k, k ≤ len → G l E d m_Choir_clearRing 7 [(0, (.ref r, 11)), (1, (.ref r2, 34)), (2, (.int (iN len), 0)), (3, (.int (iN (ringMin C P len k)), 0)), (4, (.int (iN k), 0))] [] (setR M r C) K := by
    refine dn len ?_ (fun k hk ih => ?_)
    · exact b_Choir_clearRing_7 (by omega) ⟨fun _ => key2 len 0 C (by omega) ⟨hW, rfl, rfl, fun _ _ _ _ _ => ⟨rfl, rfl⟩⟩ rfl, fun c => absurd ((iN_le (by omega) (by omega) (by omega) (by omega)).mpr (by omega)) c⟩
    · have hlt : (k + 1) % len < len := Nat.mod_lt _ (by omega)
      have q1 := hP.1 k (by omega)
      have q2 := hP.1 ((k + 1) % len) (by omega)
      have q3 := hrm k (by omega)
      obtain ⟨y, hy⟩ : ∃ y : Nat, P ((k + 1) % len) = y := ⟨(P ((k + 1) % len)).toNat, (by omega)⟩
      have q4 := debtC_rng hV (P k) (b := y) (by omega)
      refine b_Choir_clearRing_7 (by omega) ⟨fun c => absurd ((iN_le (by omega) (by omega) (by omega) (by omega)).mp c) (by omega), fun _ => ?_⟩
      rw [iR_nx hl l8 (by omega), iN_clN (by omega), iN_clN (by omega), setR_ne M C hr, hPe, hy]
      refine ⟨iN_in (by omega) (by omega) (by omega), by rw [iN_eq0 (by omega) (by omega)]; omega, iN_in (by omega) (by omega) (by omega), c_debtAtNoteS (by omega) hV (by omega) (by omega) (by omega) ?_⟩
      rw [toI_int]
      refine c_min (by omega) (by omega) (by omega) (by omega) (by omega) ?_
      rw [toI_int, iN_add]
      have e : ringMin C P len (k + 1) = min (ringMin C P len k) (debtC C (P k) y) := by
        show min _ (debtC C (P k) (P ((k + 1) % len)).toNat) = _
        rw [hy]; rfl
      rw [e] at ih
      exact ih
  exact key1 0 (by omega)
theorem c_roundAtQ {l : Launch} {E : EnvT} {d : Nat} {K : AV → Mem → Prop} {M : Mem} {rc n : Nat} {x : Int} (hd : 12 ≤ d) (hF : FC M rc) (hn : M rc 0 8 = n) (x1 : -2147483648 ≤ x) (x2 : x < 2147483648) (h1 : x < 0 → K (.int (iN (-1)), 0) (stM M 1)) (h6 : 0 ≤ x → ∀ T T' : Ch, LK T (M rc) n → (frL (T 2) n 3 (n - 2) (T 4)).1 ≤ x → K (.int (iN (-1)), 0) (stM (setR M 12 T') 6)) (hy : 0 ≤ x → ∀ T T' : Ch, LK T (M rc) n → x < (frL (T 2) n 3 (n - 2) (T 4)).1 → K (.int (iN ((frL (T 2) n 3 (n - 2) (T 4)).2 x.toNat)), 0) (stM (setR M 12 T') 0)) : CT l E d m_FN_roundAt [(.ref 0, 0), (.int (iN x), 0)] M K := by
  refine CT.of pn_FN (Nat.le_of_ble_eq_true rfl) ?_
  have hV := hF.2.2
  have h8 := hV.n
  have hr := hF.2.1
  refine b_FN_roundAt_0 (by omega) ?_
  rw [hF.eq, iN_0le x1 x2]
  refine ⟨fun c => ⟨hF.cl, c_look (by omega) (by omega) hV hn (fun T hT => ?_)⟩, fun c => c_refuse (by omega) (by omega) (by omega) (h1 (by omega))⟩
  refine c_findRound (by omega) hT.1 (by omega) (hT.n (by omega)) ?_
  have fr := frL_rng (T 2) n (by omega) (T 4)
  have h6 := h6 c T (setC T 4 (frL (T 2) n 3 (n - 2) (T 4)).2) hT
  have hy := hy c T (setC T 4 (frL (T 2) n 3 (n - 2) (T 4)).2) hT
  rw [toI_int, iN_lt x1 x2 (by omega) (by omega)]
  refine ⟨fun c2 => ⟨in8 (by omega) (by omega), c_answer (by omega) ?_⟩, fun c2 => c_refuse (by omega) (by omega) (by omega) (h6 (by omega))⟩
  obtain ⟨k, rfl⟩ : ∃ k : Nat, x = k := ⟨x.toNat, (by omega)⟩
  rw [setR_same, setC_same, iN_clN (by omega)]
  exact hy c2
theorem c_clearQ {l : Launch} {E : EnvT} {d : Nat} {K : AV → Mem → Prop} {M : Mem} {rc n : Nat} (hd : 12 ≤ d) (hF : FC M rc) (hW : WC (M rc)) (hn : M rc 0 8 = n) (h7 : ∀ T T' : Ch, LK T (M rc) n → (frL (T 2) n 3 (n - 2) (T 4)).1 = 0 → K (.int (iN (-1)), 0) (stM (setR M 12 T') 7)) (hy : ∀ (T T' : Ch) (len : Nat), LK T (M rc) n → (frL (T 2) n 3 (n - 2) (T 4)).1 = len → 1 ≤ len → K (.int (iN (ringMin (M rc) (frL (T 2) n 3 (n - 2) (T 4)).2 len len)), 0) (stM (setR (setR M 12 T') rc (settleC (ringOff (frL (T 2) n 3 (n - 2) (T 4)).2 len (ringMin (M rc) (frL (T 2) n 3 (n - 2) (T 4)).2 len len) len 0 (M rc)))) 0)) : CT l E d m_FN_clear [(.ref 0, 0)] M K := by
  refine CT.of pn_FN (Nat.le_of_ble_eq_true rfl) ?_
  have hV := hF.2.2
  have h8 := hV.n
  have hr := hF.2.1
  refine b_FN_clear_0 (by omega) ?_
  rw [hF.eq]
  refine ⟨hF.cl, c_look (by omega) (by omega) hV hn (fun T hT => ?_)⟩
  refine c_findRound (by omega) hT.1 (by omega) (hT.n (by omega)) ?_
  have fr := frL_rng (T 2) n (by omega) (T 4)
  have h7 := h7 T (setC T 4 (frL (T 2) n 3 (n - 2) (T 4)).2) hT
  have hy := hy T (setC T 4 (frL (T 2) n 3 (n - 2) (T 4)).2)
  rw [toI_int, iN_eq0 (by omega) (by omega)]
  refine ⟨fun c => ?_, fun c => c_refuse (by omega) (by omega) (by omega) (h7 c)⟩
  obtain ⟨len, hl⟩ : ∃ len : Nat, (frL (T 2) n 3 (n - 2) (T 4)).1 = len := ⟨(frL (T 2) n 3 (n - 2) (T 4)).1.toNat, (by omega)⟩
  have hy := hy len hT hl (by omega)
  have pv := frL_ok hV (by omega) hT (n - 2) 3 (T 4) len (by omega) hl (by omega)
  generalize hq : frL (T 2) n 3 (n - 2) (T 4) = q at *
  have e0 : setR M 12 (setC T 4 q.2) 0 = M 0 := setR_ne _ _ (by decide)
  have ec : setR M 12 (setC T 4 q.2) rc = M rc := setR_ne _ _ (by omega)
  rw [e0, hF.eq, hl]
  refine ⟨hF.cl, ?_⟩
  have e : setR M 12 (setC T 4 q.2) = setR (setR M 12 (setC T 4 q.2)) rc (M rc) := by rw [← ec, setR_self]
  have goal : CT l E (d - 1) m_Choir_clearRing [(.ref rc, 11), (.ref 12, 34), (.int (iN (len : Int)), 0)] (setR (setR M 12 (setC T 4 q.2)) rc (M rc)) (fun v3 M3 => CT l E (d - 1) m_FN_answer [(.ref 0, 0), (.int (toI v3), 0)] M3 (fun v4 M4 => K (.int (toI v4), 0) M4)) :=
    c_clearRing2 (P := q.2) (by omega) hW (by omega) hn (by omega) (by omega) (by rw [setR_same, setC_same]) pv (c_answer (by omega) hy)
  rw [← e] at goal
  exact goal
theorem r_clear {l : Launch} {E : EnvT} {d : Nat} {K : AV → Mem → Prop} {M : Mem} {C Z T : Ch} {A : Nat → Int} {n : Nat} (hd : 8 ≤ d) (hB : Z 0 21 = 0) (hW : WC C) (hR : RR C A 0) (hn : C 0 8 = n) (hT : LK T C n) (h7 : (frL (T 2) n 3 (n - 2) (T 4)).1 = 0 → ∀ Z', ZS Z Z' → K (.int (iN (-1)), 0) (zA M (sZ Z' 7) A)) (hy : ∀ len : Nat, (frL (T 2) n 3 (n - 2) (T 4)).1 = len → 1 ≤ len → ∀ Z' A', ZS Z Z' → RR (settleC (ringOff (frL (T 2) n 3 (n - 2) (T 4)).2 len (ringMin C (frL (T 2) n 3 (n - 2) (T 4)).2 len len) len 0 C)) A' 0 → FrA 0 A A' → K (.int (iN (ringMin C (frL (T 2) n 3 (n - 2) (T 4)).2 len len)), 0) (zA M (sZ Z' 0) A')) : CT l E d m_Mod_clear [(.ref 24, 41)] (zA M Z A) K := by
  refine CT.of pn_Mod (Nat.le_of_ble_eq_true rfl) ?_
  have hV := hW.1
  have hnn := hV.n
  have n8 : n ≤ 8 := (by omega)
  refine b_Mod_clear_0 (by omega) (r_roundOf (P := T 4) (by omega) hB hV hR hn hT (fun s1 Y' s3 => ⟨fun c => absurd rfl c, fun _ => r_refuse (by omega) (by omega) (by omega) (h7 s1 Y' (fun c _ hc => s3 c hc))⟩) (fun len l1 l2 s1 Y' s2 s3 => ?_))
  have hy := hy len s1 (by omega) Y'
  have pv := frL_ok hV n8 hT (n - 2) 3 (T 4) len (by omega) s1 (by omega)
  generalize (frL (T 2) n 3 (n - 2) (T 4)).2 = P at *
  have hB' : Y' 0 21 = 0 := by rw [s3 0 (by decide)]; exact hB
  have c10 : ∀ A', zA M Y' A' 24 10 = Y' 10 := fun A' => zA_c M Y' A' (show 10 ≠ 1 by decide)
  have hrm := fun k => ringMin_nn hV (P := P) (len := len) (fun k hk => by have := pv.1 k hk; omega) k
  have hrl := hrm len (Nat.le_refl _)
  rw [toI_int, iN_eq (by omega) (by omega) (by omega) (by omega)]
  refine ⟨fun _ => ?_, fun c => absurd c (by omega)⟩
  have key2 : ∀ (m k : Nat) (D : Ch) (A' : Nat → Int), k + m = len → RG C D P len k → RR D A' 0 → FrA 0 A A' → ringOff P len (ringMin C P len len) len 0 C = ringOff P len (ringMin C P len len) m k D → G l E d m_Mod_clear 61 [(0, (.ref 24, 41)), (1, (.int (iN len), 0)), (2, (.int (iN (ringMin C P len len)), 0)), (3, (.int (iN k), 0))] [] (zA M Y' A') K := by
    intro m
    induction m with
    | zero =>
      intro k D A' hk hD hr hf he
      refine b_Mod_clear_61 (by omega) ⟨fun _ => c_fills (B := 0) (by omega) hB' (by omega) hD.1 hr (fun A2 r2 f2 => r_gives (by omega) ?_), fun c => absurd ((iN_le (by omega) (by omega) (by omega) (by omega)).mpr (by omega)) c⟩
      rw [he] at hy
      exact hy A2 (fun c _ hc => s3 c hc) r2 (hf.tr f2)
    | succ m ih =>
      intro k D A' hk hD hr hf he
      obtain ⟨i, b, hb, b8, hs, i8, o1, o2, h'⟩ := hD.step hV hn pv (by omega)
      have b9 := b8
      rw [hD.2.2.1, hn] at b9
      have hlt : (k + 1) % len < len := Nat.mod_lt _ (by omega)
      have q1 := pv.1 k (by omega)
      refine b_Mod_clear_61 (by omega) ⟨fun c => absurd ((iN_le (by omega) (by omega) (by omega) (by omega)).mp c) (by omega), fun _ => ?_⟩
      rw [iR_nx (by omega) (by omega) (by omega), iN_clN (by omega), iN_clN (by omega), c10, s2 k (by omega), s2 _ hlt, hb]
      refine ⟨in8 (by omega) (by omega), by rw [iN_eq0 (by omega) (by omega)]; omega, in8 (by omega) (by omega), c_goesOff (by omega) hB' hD.1.1 hr b8 (by omega) (by omega) hs o1 o2 (fun A2 r2 f2 => ?_)⟩
      rw [iN_add]
      rw [ringOff_step (C := C) hb hs] at he
      exact ih (k + 1) _ A2 (by omega) h' r2 (hf.tr f2) he
  have key1 : ∀ k, k ≤ len → G l E d m_Mod_clear 23 [(0, (.ref 24, 41)), (1, (.int (iN len), 0)), (2, (.int (iN (ringMin C P len k)), 0)), (3, (.int (iN k), 0))] [] (zA M Y' A) K := by
    refine dn len ?_ (fun k hk ih => ?_)
    · exact b_Mod_clear_23 (by omega) ⟨fun _ => key2 len 0 C A (by omega) ⟨hW, rfl, rfl, fun _ _ _ _ _ => ⟨rfl, rfl⟩⟩ hR (FrA.rf _ _) rfl, fun c => absurd ((iN_le (by omega) (by omega) (by omega) (by omega)).mpr (by omega)) c⟩
    · have hlt : (k + 1) % len < len := Nat.mod_lt _ (by omega)
      have q1 := pv.1 k (by omega)
      have q2 := pv.1 ((k + 1) % len) (by omega)
      have q3 := hrm k (by omega)
      obtain ⟨y, hy'⟩ : ∃ y : Nat, P ((k + 1) % len) = y := ⟨(P ((k + 1) % len)).toNat, (by omega)⟩
      have q4 := debtC_rng hV (P k) (b := y) (by omega)
      refine b_Mod_clear_23 (by omega) ⟨fun c => absurd ((iN_le (by omega) (by omega) (by omega) (by omega)).mp c) (by omega), fun _ => ?_⟩
      rw [iR_nx (by omega) (by omega) (by omega), iN_clN (by omega), iN_clN (by omega), c10, s2 k (by omega), s2 _ hlt, hy']
      refine ⟨in8 (by omega) (by omega), by rw [iN_eq0 (by omega) (by omega)]; omega, in8 (by omega) (by omega), c_noted (B := 0) (by omega) hB' (by omega) hV hR (by omega) (by omega) (by omega) ?_⟩
      rw [toI_int]
      refine c_min (by omega) (by omega) (by omega) (by omega) (by omega) ?_
      rw [toI_int, iN_add]
      have e : ringMin C P len (k + 1) = min (ringMin C P len k) (debtC C (P k) y) := by
        show min _ (debtC C (P k) (P ((k + 1) % len)).toNat) = _
        rw [hy']; rfl
      rw [e] at ih
      exact ih
  exact key1 0 (by omega)
