theorem i_lend {l : Launch} {E : EnvT} {d : Nat} {M : Mem} {Z : Ch} {A : Nat → Int} {a b n : Int} (hd : 20 ≤ d) (iv : IV M Z A) (a1 : -2147483648 ≤ a) (a2 : a < 2147483648) (b1 : -2147483648 ≤ b) (b2 : b < 2147483648) (n1 : -2147483648 ≤ n) (n2 : n < 2147483648): CT l E d m_FN_lend [(.ref 0, 0), (.int (iN a), 0), (.int (iN b), 0), (.int (iN n), 0)] (zA M Z A) (fun v1 M1 => CT l E d m_Mod_lend [(.ref 24, 41), (.int (iN a), 0), (.int (iN b), 0), (.int (iN n), 0)] M1 (fun v2 M2 => PST v1 v2 M2)) := by
  obtain ⟨rc, rs, ry, rz, hf, hc, hs, ht, hl, hr, hk⟩ := id iv
  have f5 := hf.2.1
  have f6 := hf.2.2.1
  have er : zA M Z A rc = M rc := zA_r M Z A (by omega)
  have fc := hf.fc hc
  have hB := hs.2.1
  have hW := hc.1
  have hV := hW.1
  have hR := hc.2.1
  have ch : ∀ (C' : Ch) (A' : Nat → Int), KX (M rc) C' → RX C' A' 0 → FrA 0 A A' → IV (setR M rc C') Z A' := fun C' A' kp rr fa => IV.ch hf hc hs ht hl hr hk kp.1 kp.2.1 kp.2.2 rr fa
  have kp := KX_lend (a := a) (b := b) (n := n) hW
  refine c_lendQ (by omega) fc a1 a2 b1 b2 n1 n2 ?_
  rw [er, zA_set M Z A _ (by omega), zA_st]
  exact x_lend (by omega) hB hW hR a1 a2 b1 b2 n1 n2 (fun A2 rr fa => ⟨rfl, _, _, _, rfl, (ch _ _ kp rr fa).st _⟩)
theorem i_pay {l : Launch} {E : EnvT} {d : Nat} {M : Mem} {Z : Ch} {A : Nat → Int} {a b n : Int} (hd : 20 ≤ d) (iv : IV M Z A) (a1 : -2147483648 ≤ a) (a2 : a < 2147483648) (b1 : -2147483648 ≤ b) (b2 : b < 2147483648) (n1 : -2147483648 ≤ n) (n2 : n < 2147483648): CT l E d m_FN_pay [(.ref 0, 0), (.int (iN a), 0), (.int (iN b), 0), (.int (iN n), 0)] (zA M Z A) (fun v1 M1 => CT l E d m_Mod_pay [(.ref 24, 41), (.int (iN a), 0), (.int (iN b), 0), (.int (iN n), 0)] M1 (fun v2 M2 => PST v1 v2 M2)) := by
  obtain ⟨rc, rs, ry, rz, hf, hc, hs, ht, hl, hr, hk⟩ := id iv
  have f5 := hf.2.1
  have f6 := hf.2.2.1
  have er : zA M Z A rc = M rc := zA_r M Z A (by omega)
  have fc := hf.fc hc
  have hB := hs.2.1
  have hW := hc.1
  have hV := hW.1
  have hR := hc.2.1
  have ch : ∀ (C' : Ch) (A' : Nat → Int), KX (M rc) C' → RX C' A' 0 → FrA 0 A A' → IV (setR M rc C') Z A' := fun C' A' kp rr fa => IV.ch hf hc hs ht hl hr hk kp.1 kp.2.1 kp.2.2 rr fa
  have kp := KX_pay (a := a) (b := b) (n := n) hW
  refine c_payQ (by omega) fc a1 a2 b1 b2 n1 n2 ?_
  rw [er, zA_set M Z A _ (by omega), zA_st]
  exact x_pay (by omega) hB hW hR a1 a2 b1 b2 n1 n2 (fun A2 rr fa => ⟨rfl, _, _, _, rfl, (ch _ _ kp rr fa).st _⟩)
theorem i_chord {l : Launch} {E : EnvT} {d : Nat} {M : Mem} {Z : Ch} {A : Nat → Int} {a b : Int} (hd : 20 ≤ d) (iv : IV M Z A) (a1 : -2147483648 ≤ a) (a2 : a < 2147483648) (b1 : -2147483648 ≤ b) (b2 : b < 2147483648): CT l E d m_FN_chord [(.ref 0, 0), (.int (iN a), 0), (.int (iN b), 0)] (zA M Z A) (fun v1 M1 => CT l E d m_Mod_chord [(.ref 24, 41), (.int (iN a), 0), (.int (iN b), 0)] M1 (fun v2 M2 => PST v1 v2 M2)) := by
  obtain ⟨rc, rs, ry, rz, hf, hc, hs, ht, hl, hr, hk⟩ := id iv
  have f5 := hf.2.1
  have f6 := hf.2.2.1
  have er : zA M Z A rc = M rc := zA_r M Z A (by omega)
  have fc := hf.fc hc
  have hB := hs.2.1
  have hW := hc.1
  have hV := hW.1
  have hR := hc.2.1
  have ch : ∀ (C' : Ch) (A' : Nat → Int), KX (M rc) C' → RX C' A' 0 → FrA 0 A A' → IV (setR M rc C') Z A' := fun C' A' kp rr fa => IV.ch hf hc hs ht hl hr hk kp.1 kp.2.1 kp.2.2 rr fa
  have kp := KX_chord (a := a) (b := b) hW
  refine c_chordQ (by omega) fc a1 a2 b1 b2 ?_
  rw [er, zA_set M Z A _ (by omega), zA_st]
  exact x_chord (by omega) hB hW hR a1 a2 b1 b2 (fun A2 rr fa => ⟨rfl, _, _, _, rfl, (ch _ _ kp rr fa).st _⟩)
theorem i_sunday {l : Launch} {E : EnvT} {d : Nat} {M : Mem} {Z : Ch} {A : Nat → Int} (hd : 20 ≤ d) (iv : IV M Z A) : CT l E d m_FN_sunday [(.ref 0, 0)] (zA M Z A) (fun v1 M1 => CT l E d m_Mod_sunday [(.ref 24, 41)] M1 (fun v2 M2 => PST v1 v2 M2)) := by
  obtain ⟨rc, rs, ry, rz, hf, hc, hs, ht, hl, hr, hk⟩ := id iv
  have f5 := hf.2.1
  have f6 := hf.2.2.1
  have er : zA M Z A rc = M rc := zA_r M Z A (by omega)
  have fc := hf.fc hc
  have hB := hs.2.1
  have hW := hc.1
  have hV := hW.1
  have hR := hc.2.1
  have ch : ∀ (C' : Ch) (A' : Nat → Int), KX (M rc) C' → RX C' A' 0 → FrA 0 A A' → IV (setR M rc C') Z A' := fun C' A' kp rr fa => IV.ch hf hc hs ht hl hr hk kp.1 kp.2.1 kp.2.2 rr fa
  have kp := KX_sun hW
  refine c_sunQ (by omega) fc  ?_
  rw [er, zA_set M Z A _ (by omega), zA_st]
  exact x_sunday (by omega) hB hW hR  (fun A2 rr fa => ⟨rfl, _, _, _, rfl, (ch _ _ kp rr fa).st _⟩)
theorem i_cold {l : Launch} {E : EnvT} {d : Nat} {M : Mem} {Z : Ch} {A : Nat → Int} {a : Int} (hd : 20 ≤ d) (iv : IV M Z A) (a1 : -2147483648 ≤ a) (a2 : a < 2147483648): CT l E d m_FN_cold [(.ref 0, 0), (.int (iN a), 0)] (zA M Z A) (fun v1 M1 => CT l E d m_Mod_cold [(.ref 24, 41), (.int (iN a), 0)] M1 (fun v2 M2 => PST v1 v2 M2)) := by
  obtain ⟨rc, rs, ry, rz, hf, hc, hs, ht, hl, hr, hk⟩ := id iv
  have f5 := hf.2.1
  have f6 := hf.2.2.1
  have er : zA M Z A rc = M rc := zA_r M Z A (by omega)
  have fc := hf.fc hc
  have hB := hs.2.1
  have hW := hc.1
  have hV := hW.1
  have hR := hc.2.1
  have ch : ∀ (C' : Ch) (A' : Nat → Int), KX (M rc) C' → RX C' A' 0 → FrA 0 A A' → IV (setR M rc C') Z A' := fun C' A' kp rr fa => IV.ch hf hc hs ht hl hr hk kp.1 kp.2.1 kp.2.2 rr fa
  have kp := KX_cold (a := a) hW
  refine c_coldQ (by omega) fc a1 a2 ?_
  rw [er, zA_set M Z A _ (by omega), zA_st]
  exact x_cold (by omega) hB hW hR a1 a2 (fun A2 rr fa => ⟨rfl, _, _, _, rfl, (ch _ _ kp rr fa).st _⟩)
theorem i_die {l : Launch} {E : EnvT} {d : Nat} {M : Mem} {Z : Ch} {A : Nat → Int} {a : Int} (hd : 20 ≤ d) (iv : IV M Z A) (a1 : -2147483648 ≤ a) (a2 : a < 2147483648): CT l E d m_FN_die [(.ref 0, 0), (.int (iN a), 0)] (zA M Z A) (fun v1 M1 => CT l E d m_Mod_die [(.ref 24, 41), (.int (iN a), 0)] M1 (fun v2 M2 => PST v1 v2 M2)) := by
  obtain ⟨rc, rs, ry, rz, hf, hc, hs, ht, hl, hr, hk⟩ := id iv
  have f5 := hf.2.1
  have f6 := hf.2.2.1
  have er : zA M Z A rc = M rc := zA_r M Z A (by omega)
  have fc := hf.fc hc
  have hB := hs.2.1
  have hW := hc.1
  have hV := hW.1
  have hR := hc.2.1
  have ch : ∀ (C' : Ch) (A' : Nat → Int), KX (M rc) C' → RX C' A' 0 → FrA 0 A A' → IV (setR M rc C') Z A' := fun C' A' kp rr fa => IV.ch hf hc hs ht hl hr hk kp.1 kp.2.1 kp.2.2 rr fa
  have kp := KX_die (a := a) hW
  refine c_dieQ (by omega) fc a1 a2 ?_
  rw [er, zA_set M Z A _ (by omega), zA_st]
  exact x_die (by omega) hB hW hR a1 a2 (fun A2 rr fa => ⟨rfl, _, _, _, rfl, (ch _ _ kp rr fa).st _⟩)
theorem i_hum {l : Launch} {E : EnvT} {d : Nat} {M : Mem} {Z : Ch} {A : Nat → Int} {a : Int} (hd : 20 ≤ d) (iv : IV M Z A) (a1 : -2147483648 ≤ a) (a2 : a < 2147483648): CT l E d m_FN_hum [(.ref 0, 0), (.int (iN a), 0)] (zA M Z A) (fun v1 M1 => CT l E d m_Mod_hum [(.ref 24, 41), (.int (iN a), 0)] M1 (fun v2 M2 => PST v1 v2 M2)) := by
  obtain ⟨rc, rs, ry, rz, hf, hc, hs, ht, hl, hr, hk⟩ := id iv
  have f5 := hf.2.1
  have f6 := hf.2.2.1
  have er : zA M Z A rc = M rc := zA_r M Z A (by omega)
  have fc := hf.fc hc
  have hB := hs.2.1
  have hW := hc.1
  have hV := hW.1
  have hR := hc.2.1
  have ch : ∀ (C' : Ch) (A' : Nat → Int), KX (M rc) C' → RX C' A' 0 → FrA 0 A A' → IV (setR M rc C') Z A' := fun C' A' kp rr fa => IV.ch hf hc hs ht hl hr hk kp.1 kp.2.1 kp.2.2 rr fa
  have kp := KX_hum (z := a) hW
  refine c_humQ (by omega) fc a1 a2 ?_
  rw [er, zA_set M Z A _ (by omega), zA_st]
  exact x_hum (by omega) hV hR a1 a2 (fun A2 rr fa => ⟨rfl, _, _, _, rfl, (ch _ _ kp rr fa).st _⟩)
theorem i_chords {l : Launch} {E : EnvT} {d : Nat} {M : Mem} {Z : Ch} {A : Nat → Int} (hd : 20 ≤ d) (iv : IV M Z A) : CT l E d m_FN_chords [(.ref 0, 0)] (zA M Z A) (fun v1 M1 => CT l E d m_Mod_chords [(.ref 24, 41)] M1 (fun v2 M2 => PST v1 v2 M2)) := by
  obtain ⟨rc, rs, ry, rz, hf, hc, hs, ht, hl, hr, hk⟩ := id iv
  have f5 := hf.2.1
  have f6 := hf.2.2.1
  have er : zA M Z A rc = M rc := zA_r M Z A (by omega)
  have fc := hf.fc hc
  have hB := hs.2.1
  have hW := hc.1
  have hV := hW.1
  have hR := hc.2.1
  have ch : ∀ (C' : Ch) (A' : Nat → Int), KX (M rc) C' → RX C' A' 0 → FrA 0 A A' → IV (setR M rc C') Z A' := fun C' A' kp rr fa => IV.ch hf hc hs ht hl hr hk kp.1 kp.2.1 kp.2.2 rr fa
  have kp := KX_all hW
  refine c_chordsQ (by omega) fc ?_
  rw [er, zA_set M Z A _ (by omega), zA_st]
  exact x_chords (by omega) hB hW hR (fun A2 rr fa => ⟨rfl, _, _, _, rfl, (ch _ _ kp rr fa).st _⟩)
theorem i_well {l : Launch} {E : EnvT} {d : Nat} {M : Mem} {Z : Ch} {A : Nat → Int} {a : Int} (hd : 20 ≤ d) (iv : IV M Z A) (a1 : -2147483648 ≤ a) (a2 : a < 2147483648): CT l E d m_FN_well [(.ref 0, 0), (.int (iN a), 0)] (zA M Z A) (fun v1 M1 => CT l E d m_Mod_well [(.ref 24, 41), (.int (iN a), 0)] M1 (fun v2 M2 => PST v1 v2 M2)) := by
  obtain ⟨rc, rs, ry, rz, hf, hc, hs, ht, hl, hr, hk⟩ := id iv
  have f5 := hf.2.1
  have f6 := hf.2.2.1
  have er : zA M Z A rc = M rc := zA_r M Z A (by omega)
  have fc := hf.fc hc
  have hB := hs.2.1
  have hW := hc.1
  have hV := hW.1
  have hR := hc.2.1
  have ch : ∀ (C' : Ch) (A' : Nat → Int), KX (M rc) C' → RX C' A' 0 → FrA 0 A A' → IV (setR M rc C') Z A' := fun C' A' kp rr fa => IV.ch hf hc hs ht hl hr hk kp.1 kp.2.1 kp.2.2 rr fa
  refine c_wellQ (by omega) fc a1 a2 (fun c => ?_) (fun c c2 => ?_) (fun c c2 => ?_)
  · rw [er] at c
    rw [zA_st]
    exact x_well (by omega) hB hW hR a1 a2 (fun _ => ⟨rfl, _, _, _, rfl, iv.st _⟩) (fun c2 => by rw [c] at c2; cases c2) (fun c2 => by rw [c] at c2; cases c2)
  · rw [er] at c c2
    rw [zA_st]
    exact x_well (by omega) hB hW hR a1 a2 (fun c3 => by rw [c] at c3; cases c3) (fun _ _ => ⟨rfl, _, _, _, rfl, iv.st _⟩) (fun _ c3 => by rw [c2] at c3; cases c3)
  · rw [er] at c c2 ⊢
    have lv := livesB_spec c
    have hn := hV.n
    have kp : KX (M rc) (upd2 (M rc) 0 11 (clrB (M rc 0 11) a.toNat)) := KP.x ⟨WC_cold0 (WX_n (lives_n c) hW) (by omega), upd2_k _ _ (by decide), upd2_c _ _ (by decide)⟩
    rw [zA_set M Z A _ (by omega), zA_st]
    exact x_well (by omega) hB hW hR a1 a2 (fun c3 => by rw [c] at c3; cases c3) (fun _ c3 => by rw [c2] at c3; cases c3) (fun _ _ A2 rr fa => ⟨rfl, _, _, _, rfl, (ch _ _ kp rr fa).st _⟩)
theorem i_earn {l : Launch} {E : EnvT} {d : Nat} {M : Mem} {Z : Ch} {A : Nat → Int} {a b : Int} (hd : 20 ≤ d) (iv : IV M Z A) (a1 : -2147483648 ≤ a) (a2 : a < 2147483648) (b1 : -2147483648 ≤ b) (b2 : b < 2147483648): CT l E d m_FN_earn [(.ref 0, 0), (.int (iN a), 0), (.int (iN b), 0)] (zA M Z A) (fun v1 M1 => CT l E d m_Mod_earn [(.ref 24, 41), (.int (iN a), 0), (.int (iN b), 0)] M1 (fun v2 M2 => PST v1 v2 M2)) := by
  obtain ⟨rc, rs, ry, rz, hf, hc, hs, ht, hl, hr, hk⟩ := id iv
  have f5 := hf.2.1
  have f6 := hf.2.2.1
  have er : zA M Z A rc = M rc := zA_r M Z A (by omega)
  have fc := hf.fc hc
  have hB := hs.2.1
  have hW := hc.1
  have hV := hW.1
  have hR := hc.2.1
  have ch : ∀ (C' : Ch) (A' : Nat → Int), KX (M rc) C' → RX C' A' 0 → FrA 0 A A' → IV (setR M rc C') Z A' := fun C' A' kp rr fa => IV.ch hf hc hs ht hl hr hk kp.1 kp.2.1 kp.2.2 rr fa
  refine c_earnQ (by omega) fc a1 a2 b1 b2 (fun c => ?_) (fun c c2 c3 c4 => ?_) (fun c c2 c3 c4 => ?_)
  · rw [er] at c
    rw [zA_st]
    exact x_earn (by omega) hB hV hR a1 a2 b1 b2 (fun _ => ⟨rfl, _, _, _, rfl, iv.st _⟩) (fun c2 c3 c4 => absurd ⟨c2, c3, c4⟩ c) (fun c2 c3 c4 => absurd ⟨c2, c3, c4⟩ c)
  · rw [er] at c c4
    rw [zA_st]
    exact x_earn (by omega) hB hV hR a1 a2 b1 b2 (fun c5 => absurd ⟨c, c2, c3⟩ c5) (fun _ _ _ _ => ⟨rfl, _, _, _, rfl, iv.st _⟩) (fun _ _ _ c5 => absurd c5 (by omega))
  · rw [er] at c c4 ⊢
    have lv := livesB_spec c
    have hn := hV.n
    have pu := hV.pu a.toNat (by omega)
    have kp : KX (M rc) (upd2 (M rc) 2 a.toNat (M rc 2 a.toNat + b)) := by
      refine KP.x ⟨WC_2 (WX_n (lives_n c) hW) (by omega) (by omega) (fun c5 _ => ?_), by rw [upd2_c _ _ (by decide)], upd2_c _ _ (by decide)⟩
      unfold livesB at c
      rw [c5, Bool.not_true, Bool.and_false] at c
      cases c
    rw [zA_set M Z A _ (by omega), zA_st]
    exact x_earn (by omega) hB hV hR a1 a2 b1 b2 (fun c5 => absurd ⟨c, c2, c3⟩ c5) (fun _ _ _ c5 => absurd c5 (by omega)) (fun _ _ _ _ A2 rr fa => ⟨rfl, _, _, _, rfl, (ch _ _ kp rr fa).st _⟩)
theorem i_name {l : Launch} {E : EnvT} {d : Nat} {M : Mem} {Z : Ch} {A : Nat → Int} {a b : Int} (hd : 20 ≤ d) (iv : IV M Z A) (a1 : -2147483648 ≤ a) (a2 : a < 2147483648) (b1 : -2147483648 ≤ b) (b2 : b < 2147483648): CT l E d m_FN_name [(.ref 0, 0), (.int (iN a), 0), (.int (iN b), 0)] (zA M Z A) (fun v1 M1 => CT l E d m_Mod_name [(.ref 24, 41), (.int (iN a), 0), (.int (iN b), 0)] M1 (fun v2 M2 => PST v1 v2 M2)) := by
  obtain ⟨rc, rs, ry, rz, hf, hc, hs, ht, hl, hr, hk⟩ := id iv
  have f5 := hf.2.1
  have f6 := hf.2.2.1
  have er : zA M Z A rc = M rc := zA_r M Z A (by omega)
  have fc := hf.fc hc
  have hB := hs.2.1
  have hW := hc.1
  have hV := hW.1
  have hR := hc.2.1
  have ch : ∀ (C' : Ch) (A' : Nat → Int), KX (M rc) C' → RX C' A' 0 → FrA 0 A A' → IV (setR M rc C') Z A' := fun C' A' kp rr fa => IV.ch hf hc hs ht hl hr hk kp.1 kp.2.1 kp.2.2 rr fa
  refine c_nameQ (by omega) fc a1 a2 b1 b2 (fun c => ?_) (fun c c2 c3 => ?_)
  · rw [er] at c
    rw [zA_st]
    exact x_name (by omega) hB hV hR a1 a2 b1 b2 (fun _ => ⟨rfl, _, _, _, rfl, iv.st _⟩) (fun c2 c3 c4 => absurd ⟨c2, c3, c4⟩ c)
  · rw [er] at c c3 ⊢
    have lv := livesB_spec c
    have hn := hV.n
    have kp : KX (M rc) (upd2 (M rc) 3 a.toNat b) := by
      refine KP.x ⟨WC_3 (WX_n (lives_n c) hW) ?_ ?_ (by omega), by rw [upd2_c _ _ (by decide)], upd2_c _ _ (by decide)⟩
      · rcases c3 with q | q
        · omega
        · have := livesB_spec q; omega
      · rcases c3 with q | q
        · exact Or.inr q
        · have := livesB_spec q; exact Or.inl (by omega)
    rw [zA_set M Z A _ (by omega), zA_st]
    exact x_name (by omega) hB hV hR a1 a2 b1 b2 (fun c5 => absurd ⟨c, c2, c3⟩ c5) (fun _ _ _ A2 rr fa => ⟨rfl, _, _, _, rfl, (ch _ _ kp rr fa).st _⟩)
