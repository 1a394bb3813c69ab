/-- what every change of a choir keeps -/
def KP (C C' : Ch) : Prop := WC C' ∧ C' 0 8 = C 0 8 ∧ C' 1 = C 1
theorem KP_lend {C : Ch} {a b n : Int} (h : WC C) (n1 : 1 ≤ n) (n2 : n ≤ 999) : KP C (lendC C a b n).2 := by
  refine ⟨WC_lend h n1 n2, lendC_08, ?_⟩
  unfold lendC
  split
  · dsimp only
    rw [upd2_c _ _ (by decide), upd2_c _ _ (by decide), oweC_c (by decide)]
  · rfl
theorem KP_pay {C : Ch} {a b n : Int} (h : WC C) (n1 : 0 ≤ n) : KP C (payC C a b n).2 := by
  refine ⟨WC_pay h n1, payC_08 (by decide), ?_⟩
  unfold payC
  split
  · show settleC _ 1 = _
    rw [settleC_c (by decide), takeOffC_c (by decide) (by decide), handC_c (by decide) (by decide)]
  · rfl
theorem KP_net {C : Ch} {a b : Int} (h : WC C) : KP C (netC C a b).2 := ⟨WC_net h, by rw [netC_c (by decide)], netC_c (by decide)⟩
theorem KP_sun {C : Ch} (h : WC C) : KP C (sunC C).2 := by
  refine ⟨WC_sunC h, sun_15 (by decide), ?_⟩
  unfold sunC
  split
  · dsimp only
    rw [sunP_c C _ _ (by decide) (by decide)]
  · rfl
theorem KP_cold {C : Ch} {z : Int} (h : WC C) : KP C (coldC C z).2 := by
  refine ⟨WC_cold h, cold_08, ?_⟩
  unfold coldC
  split
  · show settleC _ 1 = _
    rw [settleC_c (by decide), upd2_c _ _ (by decide), coldF_c _ (by decide) (by decide) (by decide) (by decide)]
  · rfl
theorem KP_bury {C : Ch} {z : Int} (h : WC C) : KP C (buryC C z).2 := by
  refine ⟨WC_bury h, bury_15 (by decide) (by decide), ?_⟩
  unfold buryC
  split
  · dsimp only
    rw [settleC_c (by decide), upd2_c _ _ (by decide), upd2_c _ _ (by decide), buryC1_c (by decide)]
  · rfl
theorem netAF_c (n : Nat) {c : Nat} (h : c ≠ 6 ∧ c ≠ 7 ∧ c ≠ 8 ∧ c ≠ 9 ∧ c ≠ 10 ∧ c ≠ 11) : ∀ (m a : Nat) (q : Int × Ch), (netAllF n m a q).2 c = q.2 c
  | 0, _, _ => rfl
  | m + 1, a, q => by
    show (netAllF n m (a + 1) (netRow a (n - (a + 1)) (a + 1) q)).2 c = q.2 c
    rw [netAF_c n h m (a + 1), netRow_c a h]
theorem KP_all {C : Ch} (h : WC C) : KP C (netAllC C).2 := by
  have e : ∀ c, (c ≠ 6 ∧ c ≠ 7 ∧ c ≠ 8 ∧ c ≠ 9 ∧ c ≠ 10 ∧ c ≠ 11) → (netAllC C).2 c = C c := fun c hc => by unfold netAllC; rw [netAF_c _ hc]
  exact ⟨WC_netAll h, by rw [e 0 (by decide)], e 1 (by decide)⟩
theorem ringO_c (P : Nat → Int) (n : Nat) (off : Int) {c : Nat} (h6 : c ≠ 6) (h7 : c ≠ 7) : ∀ (m k : Nat) (C : Ch), ringOff P n off m k C c = C c
  | 0, _, _ => rfl
  | m + 1, k, C => by
    show ringOff P n off m (k + 1) (if slotOfC C (P k) (P ((k + 1) % n)).toNat = -1 then C else takeOffC C (slotOfC C (P k) (P ((k + 1) % n)).toNat).toNat off) c = C c
    rw [ringO_c P n off h6 h7 m (k + 1)]
    split
    · rfl
    · exact takeOffC_c h6 h7
theorem i_lend {l : Launch} {E : EnvT} {d : Nat} {M : Mem} {Z : Ch} {A : Nat → Int} {a b n : Int} (hd : 20 ≤ d) (iv : IV M Z A) (a1 : -2147483648 ≤ a) (a2 : a < 2147483648) (b1 : -2147483648 ≤ b) (b2 : b < 2147483648) (n1 : -2147483648 ≤ n) (n2 : n < 2147483648): CT l E d m_FN_lend [(.ref 0, 0), (.int (iN a), 0), (.int (iN b), 0), (.int (iN n), 0)] (zA M Z A) (fun v1 M1 => CT l E d m_Mod_lend [(.ref 24, 41), (.int (iN a), 0), (.int (iN b), 0), (.int (iN n), 0)] M1 (fun v2 M2 => PST v1 v2 M2)) := by
  obtain ⟨rc, rs, ry, rz, hf, hc, hs, ht, hl, hr, hk⟩ := id iv
  have f5 := hf.2.1
  have f6 := hf.2.2.1
  have er : zA M Z A rc = M rc := zA_r M Z A (by omega)
  have fc := hf.fc hc
  have hB := hs.2.1
  have hW := hc.1
  have hV := hW.1
  have hR := hc.2.1
  have ch : ∀ (C' : Ch) (A' : Nat → Int), KP (M rc) C' → RR C' A' 0 → FrA 0 A A' → IV (setR M rc C') Z A' := fun C' A' kp rr fa => IV.ch hf hc hs ht hl hr hk kp.1 kp.2.1 kp.2.2 rr fa
  have kp : KP (M rc) (lendQ (M rc) a b n).2 := by
    unfold lendQ
    split
    · rename_i c
      rw [Bool.and_eq_true] at c
      have := of_decide_eq_true c.2
      exact KP_lend hW (by omega) (by omega)
    · exact ⟨hW, rfl, rfl⟩
  refine c_lendQ (by omega) fc a1 a2 b1 b2 n1 n2 ?_
  rw [er, zA_set M Z A _ (by omega), zA_st]
  exact r_lend (by omega) hB hW hR a1 a2 b1 b2 n1 n2 (fun A2 rr fa => ⟨rfl, _, _, _, rfl, (ch _ _ kp rr fa).st _⟩)
theorem i_pay {l : Launch} {E : EnvT} {d : Nat} {M : Mem} {Z : Ch} {A : Nat → Int} {a b n : Int} (hd : 20 ≤ d) (iv : IV M Z A) (a1 : -2147483648 ≤ a) (a2 : a < 2147483648) (b1 : -2147483648 ≤ b) (b2 : b < 2147483648) (n1 : -2147483648 ≤ n) (n2 : n < 2147483648): CT l E d m_FN_pay [(.ref 0, 0), (.int (iN a), 0), (.int (iN b), 0), (.int (iN n), 0)] (zA M Z A) (fun v1 M1 => CT l E d m_Mod_pay [(.ref 24, 41), (.int (iN a), 0), (.int (iN b), 0), (.int (iN n), 0)] M1 (fun v2 M2 => PST v1 v2 M2)) := by
  obtain ⟨rc, rs, ry, rz, hf, hc, hs, ht, hl, hr, hk⟩ := id iv
  have f5 := hf.2.1
  have f6 := hf.2.2.1
  have er : zA M Z A rc = M rc := zA_r M Z A (by omega)
  have fc := hf.fc hc
  have hB := hs.2.1
  have hW := hc.1
  have hV := hW.1
  have hR := hc.2.1
  have ch : ∀ (C' : Ch) (A' : Nat → Int), KP (M rc) C' → RR C' A' 0 → FrA 0 A A' → IV (setR M rc C') Z A' := fun C' A' kp rr fa => IV.ch hf hc hs ht hl hr hk kp.1 kp.2.1 kp.2.2 rr fa
  have kp : KP (M rc) (payQ (M rc) a b n).2 := by
    unfold payQ
    split
    · rename_i c
      rw [Bool.and_eq_true] at c
      have := of_decide_eq_true c.2
      exact KP_pay hW (by omega)
    · exact ⟨hW, rfl, rfl⟩
  refine c_payQ (by omega) fc a1 a2 b1 b2 n1 n2 ?_
  rw [er, zA_set M Z A _ (by omega), zA_st]
  exact r_pay (by omega) hB hW hR a1 a2 b1 b2 n1 n2 (fun A2 rr fa => ⟨rfl, _, _, _, rfl, (ch _ _ kp rr fa).st _⟩)
theorem i_chord {l : Launch} {E : EnvT} {d : Nat} {M : Mem} {Z : Ch} {A : Nat → Int} {a b : Int} (hd : 20 ≤ d) (iv : IV M Z A) (a1 : -2147483648 ≤ a) (a2 : a < 2147483648) (b1 : -2147483648 ≤ b) (b2 : b < 2147483648): CT l E d m_FN_chord [(.ref 0, 0), (.int (iN a), 0), (.int (iN b), 0)] (zA M Z A) (fun v1 M1 => CT l E d m_Mod_chord [(.ref 24, 41), (.int (iN a), 0), (.int (iN b), 0)] M1 (fun v2 M2 => PST v1 v2 M2)) := by
  obtain ⟨rc, rs, ry, rz, hf, hc, hs, ht, hl, hr, hk⟩ := id iv
  have f5 := hf.2.1
  have f6 := hf.2.2.1
  have er : zA M Z A rc = M rc := zA_r M Z A (by omega)
  have fc := hf.fc hc
  have hB := hs.2.1
  have hW := hc.1
  have hV := hW.1
  have hR := hc.2.1
  have ch : ∀ (C' : Ch) (A' : Nat → Int), KP (M rc) C' → RR C' A' 0 → FrA 0 A A' → IV (setR M rc C') Z A' := fun C' A' kp rr fa => IV.ch hf hc hs ht hl hr hk kp.1 kp.2.1 kp.2.2 rr fa
  have kp : KP (M rc) (chordQ (M rc) a b).2 := by
    unfold chordQ
    split
    · exact KP_net hW
    · exact ⟨hW, rfl, rfl⟩
  refine c_chordQ (by omega) fc a1 a2 b1 b2 ?_
  rw [er, zA_set M Z A _ (by omega), zA_st]
  exact r_chord (by omega) hB hW hR a1 a2 b1 b2 (fun A2 rr fa => ⟨rfl, _, _, _, rfl, (ch _ _ kp rr fa).st _⟩)
theorem i_sunday {l : Launch} {E : EnvT} {d : Nat} {M : Mem} {Z : Ch} {A : Nat → Int} (hd : 20 ≤ d) (iv : IV M Z A) : CT l E d m_FN_sunday [(.ref 0, 0)] (zA M Z A) (fun v1 M1 => CT l E d m_Mod_sunday [(.ref 24, 41)] M1 (fun v2 M2 => PST v1 v2 M2)) := by
  obtain ⟨rc, rs, ry, rz, hf, hc, hs, ht, hl, hr, hk⟩ := id iv
  have f5 := hf.2.1
  have f6 := hf.2.2.1
  have er : zA M Z A rc = M rc := zA_r M Z A (by omega)
  have fc := hf.fc hc
  have hB := hs.2.1
  have hW := hc.1
  have hV := hW.1
  have hR := hc.2.1
  have ch : ∀ (C' : Ch) (A' : Nat → Int), KP (M rc) C' → RR C' A' 0 → FrA 0 A A' → IV (setR M rc C') Z A' := fun C' A' kp rr fa => IV.ch hf hc hs ht hl hr hk kp.1 kp.2.1 kp.2.2 rr fa
  have kp : KP (M rc) (sunQ (M rc)).2 := by
    exact KP_sun hW
  refine c_sunQ (by omega) fc  ?_
  rw [er, zA_set M Z A _ (by omega), zA_st]
  exact r_sunday (by omega) hB hW hR  (fun A2 rr fa => ⟨rfl, _, _, _, rfl, (ch _ _ kp rr fa).st _⟩)
theorem i_cold {l : Launch} {E : EnvT} {d : Nat} {M : Mem} {Z : Ch} {A : Nat → Int} {a : Int} (hd : 20 ≤ d) (iv : IV M Z A) (a1 : -2147483648 ≤ a) (a2 : a < 2147483648): CT l E d m_FN_cold [(.ref 0, 0), (.int (iN a), 0)] (zA M Z A) (fun v1 M1 => CT l E d m_Mod_cold [(.ref 24, 41), (.int (iN a), 0)] M1 (fun v2 M2 => PST v1 v2 M2)) := by
  obtain ⟨rc, rs, ry, rz, hf, hc, hs, ht, hl, hr, hk⟩ := id iv
  have f5 := hf.2.1
  have f6 := hf.2.2.1
  have er : zA M Z A rc = M rc := zA_r M Z A (by omega)
  have fc := hf.fc hc
  have hB := hs.2.1
  have hW := hc.1
  have hV := hW.1
  have hR := hc.2.1
  have ch : ∀ (C' : Ch) (A' : Nat → Int), KP (M rc) C' → RR C' A' 0 → FrA 0 A A' → IV (setR M rc C') Z A' := fun C' A' kp rr fa => IV.ch hf hc hs ht hl hr hk kp.1 kp.2.1 kp.2.2 rr fa
  have kp : KP (M rc) (coldQ (M rc) a).2 := by
    unfold coldQ
    split
    · exact KP_cold hW
    · exact ⟨hW, rfl, rfl⟩
  refine c_coldQ (by omega) fc a1 a2 ?_
  rw [er, zA_set M Z A _ (by omega), zA_st]
  exact r_cold (by omega) hB hW hR a1 a2 (fun A2 rr fa => ⟨rfl, _, _, _, rfl, (ch _ _ kp rr fa).st _⟩)
theorem i_die {l : Launch} {E : EnvT} {d : Nat} {M : Mem} {Z : Ch} {A : Nat → Int} {a : Int} (hd : 20 ≤ d) (iv : IV M Z A) (a1 : -2147483648 ≤ a) (a2 : a < 2147483648): CT l E d m_FN_die [(.ref 0, 0), (.int (iN a), 0)] (zA M Z A) (fun v1 M1 => CT l E d m_Mod_die [(.ref 24, 41), (.int (iN a), 0)] M1 (fun v2 M2 => PST v1 v2 M2)) := by
  obtain ⟨rc, rs, ry, rz, hf, hc, hs, ht, hl, hr, hk⟩ := id iv
  have f5 := hf.2.1
  have f6 := hf.2.2.1
  have er : zA M Z A rc = M rc := zA_r M Z A (by omega)
  have fc := hf.fc hc
  have hB := hs.2.1
  have hW := hc.1
  have hV := hW.1
  have hR := hc.2.1
  have ch : ∀ (C' : Ch) (A' : Nat → Int), KP (M rc) C' → RR C' A' 0 → FrA 0 A A' → IV (setR M rc C') Z A' := fun C' A' kp rr fa => IV.ch hf hc hs ht hl hr hk kp.1 kp.2.1 kp.2.2 rr fa
  have kp : KP (M rc) (dieQ (M rc) a).2 := by
    unfold dieQ
    split
    · exact KP_bury hW
    · exact ⟨hW, rfl, rfl⟩
  refine c_dieQ (by omega) fc a1 a2 ?_
  rw [er, zA_set M Z A _ (by omega), zA_st]
  exact r_die (by omega) hB hW hR a1 a2 (fun A2 rr fa => ⟨rfl, _, _, _, rfl, (ch _ _ kp rr fa).st _⟩)
theorem i_hum {l : Launch} {E : EnvT} {d : Nat} {M : Mem} {Z : Ch} {A : Nat → Int} {a : Int} (hd : 20 ≤ d) (iv : IV M Z A) (a1 : -2147483648 ≤ a) (a2 : a < 2147483648): CT l E d m_FN_hum [(.ref 0, 0), (.int (iN a), 0)] (zA M Z A) (fun v1 M1 => CT l E d m_Mod_hum [(.ref 24, 41), (.int (iN a), 0)] M1 (fun v2 M2 => PST v1 v2 M2)) := by
  obtain ⟨rc, rs, ry, rz, hf, hc, hs, ht, hl, hr, hk⟩ := id iv
  have f5 := hf.2.1
  have f6 := hf.2.2.1
  have er : zA M Z A rc = M rc := zA_r M Z A (by omega)
  have fc := hf.fc hc
  have hB := hs.2.1
  have hW := hc.1
  have hV := hW.1
  have hR := hc.2.1
  have ch : ∀ (C' : Ch) (A' : Nat → Int), KP (M rc) C' → RR C' A' 0 → FrA 0 A A' → IV (setR M rc C') Z A' := fun C' A' kp rr fa => IV.ch hf hc hs ht hl hr hk kp.1 kp.2.1 kp.2.2 rr fa
  have kp : KP (M rc) (humQ (M rc) a).2 := by
    unfold humQ
    split
    · rename_i c
      have := of_decide_eq_true c
      refine ⟨WC_f hW (by omega) (VB_f13 hV (by omega) (by omega)), ?_, ?_⟩
      · dsimp only
        rw [upd2_k _ _ (by decide)]
      · dsimp only
        rw [upd2_c _ _ (by decide)]
    · exact ⟨hW, rfl, rfl⟩
  refine c_humQ (by omega) fc a1 a2 ?_
  rw [er, zA_set M Z A _ (by omega), zA_st]
  exact r_hum (by omega) hV hR a1 a2 (fun A2 rr fa => ⟨rfl, _, _, _, rfl, (ch _ _ kp rr fa).st _⟩)
theorem i_chords {l : Launch} {E : EnvT} {d : Nat} {M : Mem} {Z : Ch} {A : Nat → Int} (hd : 20 ≤ d) (iv : IV M Z A) : CT l E d m_FN_chords [(.ref 0, 0)] (zA M Z A) (fun v1 M1 => CT l E d m_Mod_chords [(.ref 24, 41)] M1 (fun v2 M2 => PST v1 v2 M2)) := by
  obtain ⟨rc, rs, ry, rz, hf, hc, hs, ht, hl, hr, hk⟩ := id iv
  have f5 := hf.2.1
  have f6 := hf.2.2.1
  have er : zA M Z A rc = M rc := zA_r M Z A (by omega)
  have fc := hf.fc hc
  have hB := hs.2.1
  have hW := hc.1
  have hV := hW.1
  have hR := hc.2.1
  have ch : ∀ (C' : Ch) (A' : Nat → Int), KP (M rc) C' → RR C' A' 0 → FrA 0 A A' → IV (setR M rc C') Z A' := fun C' A' kp rr fa => IV.ch hf hc hs ht hl hr hk kp.1 kp.2.1 kp.2.2 rr fa
  have kp := KP_all hW
  refine c_chordsQ (by omega) fc ?_
  rw [er, zA_set M Z A _ (by omega), zA_st]
  exact r_chords (by omega) hB hW hR (fun A2 rr fa => ⟨rfl, _, _, _, rfl, (ch _ _ kp rr fa).st _⟩)
theorem i_well {l : Launch} {E : EnvT} {d : Nat} {M : Mem} {Z : Ch} {A : Nat → Int} {a : Int} (hd : 20 ≤ d) (iv : IV M Z A) (a1 : -2147483648 ≤ a) (a2 : a < 2147483648): CT l E d m_FN_well [(.ref 0, 0), (.int (iN a), 0)] (zA M Z A) (fun v1 M1 => CT l E d m_Mod_well [(.ref 24, 41), (.int (iN a), 0)] M1 (fun v2 M2 => PST v1 v2 M2)) := by
  obtain ⟨rc, rs, ry, rz, hf, hc, hs, ht, hl, hr, hk⟩ := id iv
  have f5 := hf.2.1
  have f6 := hf.2.2.1
  have er : zA M Z A rc = M rc := zA_r M Z A (by omega)
  have fc := hf.fc hc
  have hB := hs.2.1
  have hW := hc.1
  have hV := hW.1
  have hR := hc.2.1
  have ch : ∀ (C' : Ch) (A' : Nat → Int), KP (M rc) C' → RR C' A' 0 → FrA 0 A A' → IV (setR M rc C') Z A' := fun C' A' kp rr fa => IV.ch hf hc hs ht hl hr hk kp.1 kp.2.1 kp.2.2 rr fa
  refine c_wellQ (by omega) fc a1 a2 (fun c => ?_) (fun c c2 => ?_) (fun c c2 => ?_)
  · rw [er] at c
    rw [zA_st]
    exact r_well (by omega) hB hW hR a1 a2 (fun _ => ⟨rfl, _, _, _, rfl, iv.st _⟩) (fun c2 => by rw [c] at c2; cases c2) (fun c2 => by rw [c] at c2; cases c2)
  · rw [er] at c c2
    rw [zA_st]
    exact r_well (by omega) hB hW hR a1 a2 (fun c3 => by rw [c] at c3; cases c3) (fun _ _ => ⟨rfl, _, _, _, rfl, iv.st _⟩) (fun _ c3 => by rw [c2] at c3; cases c3)
  · rw [er] at c c2 ⊢
    have lv := livesB_spec c
    have hn := hV.n
    have kp : KP (M rc) (upd2 (M rc) 0 11 (clrB (M rc 0 11) a.toNat)) := ⟨WC_cold0 hW (by omega), upd2_k _ _ (by decide), upd2_c _ _ (by decide)⟩
    rw [zA_set M Z A _ (by omega), zA_st]
    exact r_well (by omega) hB hW hR a1 a2 (fun c3 => by rw [c] at c3; cases c3) (fun _ c3 => by rw [c2] at c3; cases c3) (fun _ _ A2 rr fa => ⟨rfl, _, _, _, rfl, (ch _ _ kp rr fa).st _⟩)
theorem i_earn {l : Launch} {E : EnvT} {d : Nat} {M : Mem} {Z : Ch} {A : Nat → Int} {a b : Int} (hd : 20 ≤ d) (iv : IV M Z A) (a1 : -2147483648 ≤ a) (a2 : a < 2147483648) (b1 : -2147483648 ≤ b) (b2 : b < 2147483648): CT l E d m_FN_earn [(.ref 0, 0), (.int (iN a), 0), (.int (iN b), 0)] (zA M Z A) (fun v1 M1 => CT l E d m_Mod_earn [(.ref 24, 41), (.int (iN a), 0), (.int (iN b), 0)] M1 (fun v2 M2 => PST v1 v2 M2)) := by
  obtain ⟨rc, rs, ry, rz, hf, hc, hs, ht, hl, hr, hk⟩ := id iv
  have f5 := hf.2.1
  have f6 := hf.2.2.1
  have er : zA M Z A rc = M rc := zA_r M Z A (by omega)
  have fc := hf.fc hc
  have hB := hs.2.1
  have hW := hc.1
  have hV := hW.1
  have hR := hc.2.1
  have ch : ∀ (C' : Ch) (A' : Nat → Int), KP (M rc) C' → RR C' A' 0 → FrA 0 A A' → IV (setR M rc C') Z A' := fun C' A' kp rr fa => IV.ch hf hc hs ht hl hr hk kp.1 kp.2.1 kp.2.2 rr fa
  refine c_earnQ (by omega) fc a1 a2 b1 b2 (fun c => ?_) (fun c c2 c3 c4 => ?_) (fun c c2 c3 c4 => ?_)
  · rw [er] at c
    rw [zA_st]
    exact r_earn (by omega) hB hV hR a1 a2 b1 b2 (fun _ => ⟨rfl, _, _, _, rfl, iv.st _⟩) (fun c2 c3 c4 => absurd ⟨c2, c3, c4⟩ c) (fun c2 c3 c4 => absurd ⟨c2, c3, c4⟩ c)
  · rw [er] at c c4
    rw [zA_st]
    exact r_earn (by omega) hB hV hR a1 a2 b1 b2 (fun c5 => absurd ⟨c, c2, c3⟩ c5) (fun _ _ _ _ => ⟨rfl, _, _, _, rfl, iv.st _⟩) (fun _ _ _ c5 => absurd c5 (by omega))
  · rw [er] at c c4 ⊢
    have lv := livesB_spec c
    have hn := hV.n
    have pu := hV.pu a.toNat (by omega)
    have kp : KP (M rc) (upd2 (M rc) 2 a.toNat (M rc 2 a.toNat + b)) := by
      refine ⟨WC_2 hW (by omega) (by omega) (fun c5 _ => ?_), by rw [upd2_c _ _ (by decide)], upd2_c _ _ (by decide)⟩
      unfold livesB at c
      rw [c5, Bool.not_true, Bool.and_false] at c
      cases c
    rw [zA_set M Z A _ (by omega), zA_st]
    exact r_earn (by omega) hB hV hR a1 a2 b1 b2 (fun c5 => absurd ⟨c, c2, c3⟩ c5) (fun _ _ _ c5 => absurd c5 (by omega)) (fun _ _ _ _ A2 rr fa => ⟨rfl, _, _, _, rfl, (ch _ _ kp rr fa).st _⟩)
theorem i_name {l : Launch} {E : EnvT} {d : Nat} {M : Mem} {Z : Ch} {A : Nat → Int} {a b : Int} (hd : 20 ≤ d) (iv : IV M Z A) (a1 : -2147483648 ≤ a) (a2 : a < 2147483648) (b1 : -2147483648 ≤ b) (b2 : b < 2147483648): CT l E d m_FN_name [(.ref 0, 0), (.int (iN a), 0), (.int (iN b), 0)] (zA M Z A) (fun v1 M1 => CT l E d m_Mod_name [(.ref 24, 41), (.int (iN a), 0), (.int (iN b), 0)] M1 (fun v2 M2 => PST v1 v2 M2)) := by
  obtain ⟨rc, rs, ry, rz, hf, hc, hs, ht, hl, hr, hk⟩ := id iv
  have f5 := hf.2.1
  have f6 := hf.2.2.1
  have er : zA M Z A rc = M rc := zA_r M Z A (by omega)
  have fc := hf.fc hc
  have hB := hs.2.1
  have hW := hc.1
  have hV := hW.1
  have hR := hc.2.1
  have ch : ∀ (C' : Ch) (A' : Nat → Int), KP (M rc) C' → RR C' A' 0 → FrA 0 A A' → IV (setR M rc C') Z A' := fun C' A' kp rr fa => IV.ch hf hc hs ht hl hr hk kp.1 kp.2.1 kp.2.2 rr fa
  refine c_nameQ (by omega) fc a1 a2 b1 b2 (fun c => ?_) (fun c c2 c3 => ?_)
  · rw [er] at c
    rw [zA_st]
    exact r_name (by omega) hB hV hR a1 a2 b1 b2 (fun _ => ⟨rfl, _, _, _, rfl, iv.st _⟩) (fun c2 c3 c4 => absurd ⟨c2, c3, c4⟩ c)
  · rw [er] at c c3 ⊢
    have lv := livesB_spec c
    have hn := hV.n
    have kp : KP (M rc) (upd2 (M rc) 3 a.toNat b) := by
      refine ⟨WC_3 hW ?_ ?_ (by omega), by rw [upd2_c _ _ (by decide)], upd2_c _ _ (by decide)⟩
      · rcases c3 with q | q
        · omega
        · have := livesB_spec q; omega
      · rcases c3 with q | q
        · exact Or.inr q
        · have := livesB_spec q; exact Or.inl (by omega)
    rw [zA_set M Z A _ (by omega), zA_st]
    exact r_name (by omega) hB hV hR a1 a2 b1 b2 (fun c5 => absurd ⟨c, c2, c3⟩ c5) (fun _ _ _ A2 rr fa => ⟨rfl, _, _, _, rfl, (ch _ _ kp rr fa).st _⟩)
