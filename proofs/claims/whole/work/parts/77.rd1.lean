abbrev PS : Type := Bool × Ch × Ch
theorem bit0_in : ∀ m : Nat, m < 256 → ∀ s : Nat, s < 8 → ((iN (m : Int) &&& (iN 1 <<< (iN (s : Int) &&& 31))) = 0 ↔ m.testBit s = false) := by decide +kernel
theorem bit_in {m : Int} {s : Nat} (h1 : 0 ≤ m) (h2 : m < 256) (h3 : s < 8) : (iN m &&& (iN 1 <<< (iN (s : Int) &&& 31))) = 0 ↔ inS m s = false := by
  obtain ⟨k, rfl⟩ : ∃ k : Nat, m = k := ⟨m.toNat, (by omega)⟩
  exact bit0_in k (by omega) s h3
def isVo (k : Int) : Bool := decide (k = 2 ∨ k = 3 ∨ k = 4)
def voF (k : Int) : Nat := if k = 2 then 9 else if k = 3 then 11 else 10
def adVo (C : Ch) (k : Int) (s : Nat) : Bool × Ch := (!inS (C 0 (voF k)) s, upd2 C 0 (voF k) (setB (C 0 (voF k)) s))
def rVo (X : Nat → Int) (L s : Nat) : Nat → Ch → Ch → PS
  | 0, T, C => (true, T, C)
  | m + 1, T, C => if isVo (T 0 8) = true then (if (adVo C (T 0 8) s).1 = true then rVo X L s m (advT X L T) (adVo C (T 0 8) s).2 else (false, rfT T 5, (adVo C (T 0 8) s).2)) else (true, T, C)
def rLi (X : Nat → Int) (L s : Nat) : Nat → Nat → Ch → Ch → PS
  | 0, _, T, C => (true, T, C)
  | m + 1, t, T, C => if 0 < t ∧ T 0 3 ≠ 2 then (true, T, C) else if (nuT T 0 24).1 = true then (if t = 6 then (false, rfT T 6, C) else rLi X L s m (t + 1) (advT X L T) (addNoteC C s (T 0 5))) else (false, (nuT T 0 24).2, C)
def rLine (X : Nat → Int) (L s : Nat) (T C : Ch) : PS := rLi X L s 7 0 (advT X L T) (upd2 C 4 s 0)
def endS (q : PS) : PS := if q.1 = true then ((stSg q.2.1 59).1, (stSg q.2.1 59).2, q.2.2) else (false, q.2.1, q.2.2)
def rS4 (X : Nat → Int) (L s : Nat) (q : PS) : PS := if q.1 = true then (if q.2.1 0 8 = 5 then endS (rLine X L s q.2.1 q.2.2) else endS q) else (false, q.2.1, q.2.2)
def rS3 (X : Nat → Int) (L : Nat) (C : Ch) (w : Int) (q : Bool × Ch) : PS := if q.1 = true then rS4 X L (C 0 8).toNat (rVo X L (C 0 8).toNat 4 (advT X L q.2) (addSingerC C w (q.2 0 5))) else (false, q.2, C)
def rS2 (X : Nat → Int) (L : Nat) (C : Ch) (w : Int) (q : Bool × Ch) : PS := if q.1 = true then rS3 X L C w (nuT (advT X L q.2) 0 999) else (false, q.2, C)
def rS1 (X : Nat → Int) (L : Nat) (C : Ch) (q : Bool × Ch) : PS := if q.1 = true then (if findC C (lI (q.2 0 9)) = -1 then rS2 X L C (q.2 0 9) (kwT (advT X L q.2) 1) else (false, rfT q.2 3, C)) else (false, q.2, C)
def rS0 (X : Nat → Int) (L : Nat) (T C : Ch) : PS := if C 0 8 < 8 then rS1 X L C (nmT (advT X L T)) else (false, rfT T 6, C)
def rO4 (X : Nat → Int) (L : Nat) (T : Ch) (o : Bool × Ch) : PS := if o.1 = true then ((stSg (advT X L T) 59).1, (stSg (advT X L T) 59).2, o.2) else (false, rfT T 6, o.2)
def rO3 (X : Nat → Int) (L : Nat) (C : Ch) (a b : Int) (q : Bool × Ch) : PS := if q.1 = true then rO4 X L q.2 (oweC C a b.toNat (q.2 0 5)) else (false, q.2, C)
def rO2 (X : Nat → Int) (L : Nat) (C : Ch) (a : Int) (q : Int × Ch) : PS := if q.1 = -1 then (false, q.2, C) else rO3 X L C a q.1 (nuT (advT X L q.2) 1 99)
def rO1 (X : Nat → Int) (L : Nat) (C : Ch) (q : Int × Ch) : PS := if q.1 = -1 then (false, q.2, C) else rO2 X L C q.1 (sgT (advT X L q.2) C q.1)
def rO0 (X : Nat → Int) (L : Nat) (T C : Ch) : PS := rO1 X L C (sgT (advT X L T) C (-1))
def rH2 (X : Nat → Int) (L : Nat) (C : Ch) (a : Int) (q : Int × Ch) : PS := if q.1 = -1 then (false, q.2, C) else ((stSg (advT X L q.2) 59).1, (stSg (advT X L q.2) 59).2, upd2 C 3 a.toNat q.1)
def rH1 (X : Nat → Int) (L : Nat) (C : Ch) (q : Int × Ch) : PS := if q.1 = -1 then (false, q.2, C) else rH2 X L C q.1 (sgT (advT X L q.2) C q.1)
def rH0 (X : Nat → Int) (L : Nat) (T C : Ch) : PS := rH1 X L C (sgT (advT X L T) C (-1))
def rU1 (X : Nat → Int) (L : Nat) (C : Ch) (q : Bool × Ch) : PS := if q.1 = true then ((stSg (advT X L q.2) 59).1, (stSg (advT X L q.2) 59).2, upd2 C 0 13 (q.2 0 5)) else (false, q.2, C)
def rU0 (X : Nat → Int) (L : Nat) (A T C : Ch) : PS := if A 0 1 = 0 then rU1 X L C (nuT (advT X L T) 0 50) else (false, rfT T 5, C)
def rPart (X : Nat → Int) (L : Nat) (A T C : Ch) : PS := if T 0 8 = 0 then rS0 X L T C else if T 0 8 = 6 then rO0 X L T C else if T 0 8 = 7 then rH0 X L T C else if T 0 8 = 8 then rU0 X L A T C else (false, rfT T 2, C)
def rPA (A T : Ch) : Ch := if T 0 8 = 8 ∧ A 0 1 = 0 then upd2 A 0 1 1 else A
def rAllF (X : Nat → Int) (L : Nat) : Nat → Ch → Ch → Ch → Bool × Ch × Ch × Ch
  | 0, A, T, C => (true, A, T, C)
  | m + 1, A, T, C => if T 0 3 = 0 then (true, A, T, C) else if (rPart X L A T C).1 = true then rAllF X L m (rPA A T) (advT X L (rPart X L A T C).2.1) (rPart X L A T C).2.2 else (false, rPA A T, (rPart X L A T C).2.1, (rPart X L A T C).2.2)
def startT (T : Ch) (L : Nat) : Ch := upd2 (upd2 (upd2 (upd2 T 0 0 0) 0 1 L) 0 2 0) 0 10 0
def rAll (X : Nat → Int) (L : Nat) (A T C : Ch) : Bool × Ch × Ch × Ch := rAllF X L (L + 1) (upd2 A 0 1 0) (advT X L (startT T L)) (emptyC C)
def PI (q : PS) (L : Nat) : Prop := TI q.2.1 L ∧ VB q.2.2
def XBn (X : Nat → Int) : Prop := ∀ j, j < 900 → -128 ≤ X j ∧ X j ≤ 127
theorem voF_rng (k : Int) : 9 ≤ voF k ∧ voF k ≤ 11 := by unfold voF; split; omega; split <;> omega
theorem VB_vo {C : Ch} (hV : VB C) (k : Int) {s : Nat} (hs : s < 8) : VB (adVo C k s).2 := by
  have h := voF_rng k
  have m := hV.ms (voF k) (by omega) (by omega)
  have q := setB_rng (s := s) m.1 m.2 hs
  unfold adVo
  show VB (upd2 C 0 (voF k) (setB (C 0 (voF k)) s))
  have : voF k = 9 ∨ voF k = 10 ∨ voF k = 11 := (by omega)
  rcases this with e | e | e
  · rw [e] at q ⊢; exact VB_f9 hV q.1 q.2
  · rw [e] at q ⊢; exact VB_f10 hV q.1 q.2
  · rw [e] at q ⊢; exact VB_f11 hV q.1 q.2
theorem rVo_PI {X : Nat → Int} {L s : Nat} (L9 : L ≤ 900) (hX : XBn X) (hs : s < 8) : ∀ (m : Nat) (T C : Ch), TI T L → VB C → PI (rVo X L s m T C) L
  | 0, _, _, hT, hV => ⟨hT, hV⟩
  | m + 1, T, C, hT, hV => by
    unfold rVo
    split
    · split
      · exact rVo_PI L9 hX hs m _ _ (adv_TI L9 hX hT) (VB_vo hV _ hs)
      · exact ⟨hT.rf (by omega) (by omega), VB_vo hV _ hs⟩
    · exact ⟨hT, hV⟩
theorem addNote_4 (C : Ch) (s : Nat) (v : Int) : addNoteC C s v 4 s = C 4 s + 1 := by unfold addNoteC; rw [upd2_same]
theorem rLi_PI {X : Nat → Int} {L s : Nat} (L9 : L ≤ 900) (hX : XBn X) (hs : s < 8) : ∀ (m t : Nat) (T C : Ch), C 4 s = t → TI T L → VB C → PI (rLi X L s m t T C) L
  | 0, _, _, _, _, hT, hV => ⟨hT, hV⟩
  | m + 1, t, T, C, ht, hT, hV => by
    unfold rLi
    have := hV.le s hs
    split
    · exact ⟨hT, hV⟩
    · split
      · rename_i c
        have q := nu_ok c
        split
        · exact ⟨hT.rf (by omega) (by omega), hV⟩
        · exact rLi_PI L9 hX hs m (t + 1) _ _ (by rw [addNote_4, ht]; rfl) (adv_TI L9 hX hT) (VB_addNote hV hs (by omega) (by omega) (by omega))
      · exact ⟨nu_TI hT _ _, hV⟩
theorem rLine_PI {X : Nat → Int} {L s : Nat} (L9 : L ≤ 900) (hX : XBn X) (hs : s < 8) {T C : Ch} (hT : TI T L) (hV : VB C) : PI (rLine X L s T C) L :=
  rLi_PI L9 hX hs 7 0 _ _ (by rw [upd2_same]; rfl) (adv_TI L9 hX hT) (VB_4 hV (by omega) (by omega))
theorem endS_PI {q : PS} {L : Nat} (h : PI q L) : PI (endS q) L := by
  unfold endS
  split
  · exact ⟨ss_TI h.1 _, h.2⟩
  · exact h
theorem addSinger_8 (C : Ch) (w p : Int) : addSingerC C w p 0 8 = C 0 8 + 1 := by unfold addSingerC; rw [upd2_same]
theorem rS0_PI {X : Nat → Int} {L : Nat} (L9 : L ≤ 900) (hX : XBn X) {T C : Ch} (hT : TI T L) (hV : VB C) : PI (rS0 X L T C) L := by
  have hn := hV.n
  unfold rS0
  split
  · have t1 := nm_TI (adv_TI L9 hX hT)
    unfold rS1
    split
    · split
      · have t2 := kw_TI (adv_TI L9 hX t1) 1
        unfold rS2
        split
        · have t3 := nu_TI (adv_TI L9 hX t2) 0 999
          unfold rS3
          split
          · rename_i c
            have q := nu_ok c
            have e := q.1
            have b5 := t3.2.2.2.2.2.1
            have t4 := rVo_PI L9 hX (s := (C 0 8).toNat) (by omega) 4 _ _ (adv_TI L9 hX t3) (VB_addSinger (nm := (nmT (advT X L T)).2 0 9) hV (by omega) b5.1 b5.2)
            unfold rS4
            split
            · split
              · exact endS_PI (rLine_PI L9 hX (by omega) t4.1 t4.2)
              · exact endS_PI t4
            · exact t4
          · exact ⟨t3, hV⟩
        · exact ⟨t2, hV⟩
      · exact ⟨t1.rf (by omega) (by omega), hV⟩
    · exact ⟨t1, hV⟩
  · exact ⟨hT.rf (by omega) (by omega), hV⟩
theorem rO0_PI {X : Nat → Int} {L : Nat} (L9 : L ≤ 900) (hX : XBn X) {T C : Ch} (hT : TI T L) (hV : VB C) : PI (rO0 X L T C) L := by
  have t1 := sg_TI (C := C) (adv_TI L9 hX hT) (-1)
  have r1 := sg_rng (T := advT X L T) hV (-1)
  unfold rO0 rO1
  split
  · exact ⟨t1, hV⟩
  · rename_i c1
    have t2 := sg_TI (C := C) (adv_TI L9 hX t1) (sgT (advT X L T) C (-1)).1
    have r2 := sg_rng (T := advT X L (sgT (advT X L T) C (-1)).2) hV (sgT (advT X L T) C (-1)).1
    unfold rO2
    split
    · exact ⟨t2, hV⟩
    · rename_i c2
      have t3 := nu_TI (adv_TI L9 hX t2) 1 99
      unfold rO3
      split
      · rename_i c
        have q := nu_ok c
        have v4 := VB_owe (C := C) (a := (sgT (advT X L T) C (-1)).1) (b := (sgT (advT X L (sgT (advT X L T) C (-1)).2) C (sgT (advT X L T) C (-1)).1).1.toNat) (n := (nuT (advT X L (sgT (advT X L (sgT (advT X L T) C (-1)).2) C (sgT (advT X L T) C (-1)).1).2) 1 99).2 0 5) hV (by omega) (by omega) (by omega) (by rw [q.1]; omega) (by rw [q.1]; omega)
        unfold rO4
        split
        · exact ⟨ss_TI (adv_TI L9 hX t3) _, v4⟩
        · exact ⟨t3.rf (by omega) (by omega), v4⟩
      · exact ⟨t3, hV⟩
theorem rH0_PI {X : Nat → Int} {L : Nat} (L9 : L ≤ 900) (hX : XBn X) {T C : Ch} (hT : TI T L) (hV : VB C) : PI (rH0 X L T C) L := by
  have t1 := sg_TI (C := C) (adv_TI L9 hX hT) (-1)
  have r1 := sg_rng (T := advT X L T) hV (-1)
  unfold rH0 rH1
  split
  · exact ⟨t1, hV⟩
  · rename_i c1
    have t2 := sg_TI (C := C) (adv_TI L9 hX t1) (sgT (advT X L T) C (-1)).1
    have r2 := sg_rng (T := advT X L (sgT (advT X L T) C (-1)).2) hV (sgT (advT X L T) C (-1)).1
    unfold rH2
    split
    · exact ⟨t2, hV⟩
    · exact ⟨ss_TI (adv_TI L9 hX t2) _, VB_3 hV (by omega) (by omega)⟩
theorem rU0_PI {X : Nat → Int} {L : Nat} (L9 : L ≤ 900) (hX : XBn X) {A T C : Ch} (hT : TI T L) (hV : VB C) : PI (rU0 X L A T C) L := by
  unfold rU0
  split
  · have t3 := nu_TI (adv_TI L9 hX hT) 0 50
    unfold rU1
    split
    · rename_i c
      have q := nu_ok c
      exact ⟨ss_TI (adv_TI L9 hX t3) _, VB_f13 hV (by rw [q.1]; omega) (by rw [q.1]; omega)⟩
    · exact ⟨t3, hV⟩
  · exact ⟨hT.rf (by omega) (by omega), hV⟩
theorem rPart_PI {X : Nat → Int} {L : Nat} (L9 : L ≤ 900) (hX : XBn X) {A T C : Ch} (hT : TI T L) (hV : VB C) : PI (rPart X L A T C) L := by
  unfold rPart
  split
  · exact rS0_PI L9 hX hT hV
  · split
    · exact rO0_PI L9 hX hT hV
    · split
      · exact rH0_PI L9 hX hT hV
      · split
        · exact rU0_PI L9 hX hT hV
        · exact ⟨hT.rf (by omega) (by omega), hV⟩
theorem O12 {rc : Nat} (h : 16 ≤ rc) : O3 1 2 rc := ⟨(by omega), (by omega), (by omega), (by omega), (by omega), (by omega)⟩
theorem c_isVoice {l : Launch} {E : EnvT} {d : Nat} {K : AV → Mem → Prop} {M : Mem} {k : Int} (hd : 1 ≤ d) (k1 : -1 ≤ k) (k2 : k ≤ 21) (h : K (.int (iN (b2i (isVo k))), 0) M) : CT l E d m_CReader_isVoice [(.int (iN k), 0)] M K := by
  refine CT.of pn_CReader (Nat.le_of_ble_eq_true rfl) ?_
  refine b_CReader_isVoice_0 hd ?_
  unfold isVo at h
  rw [iN_eq (by omega) (by omega) (by omega) (by omega), iN_eq (by omega) (by omega) (by omega) (by omega), iN_eq (by omega) (by omega) (by omega) (by omega)]
  refine ⟨fun c => ⟨o01, ?_⟩, fun c1 => ⟨fun c => ⟨o01, ?_⟩, fun c2 => ⟨fun c => ⟨z01, ?_⟩, fun c => ⟨o01, ?_⟩⟩⟩⟩
  · rw [decide_eq_true (by omega)] at h; exact h
  · rw [decide_eq_true (by omega)] at h; exact h
  · rw [decide_eq_false (by omega)] at h; exact h
  · rw [decide_eq_true (by omega)] at h; exact h
theorem c_addVoice {l : Launch} {E : EnvT} {d : Nat} {K : AV → Mem → Prop} {M : Mem} {rc s : Nat} {A T C : Ch} {L : Nat} (hd : 1 ≤ d) (hq : 16 ≤ rc) (hT : TI T L) (hV : VB C) (hs : s < 8) (h : K (.int (iN (b2i (adVo C (T 0 8) s).1)), 0) (m3 M 1 2 rc A T (adVo C (T 0 8) s).2)) : CT l E d m_CReader_addVoice [(.ref 1, 3), (.ref rc, 11), (.int (iN s), 0)] (m3 M 1 2 rc A T C) K := by
  refine CT.of pn_CReader (Nat.le_of_ble_eq_true rfl) ?_
  have o := O12 hq
  have a8 := hT.2.2.2.2.2.2.2.2.1
  refine b_CReader_addVoice_0 hd ?_
  have m9 := hV.ms 9 (by omega) (by omega)
  have m10 := hV.ms 10 (by omega) (by omega)
  have m11 := hV.ms 11 (by omega) (by omega)
  have q9 := setB_rng (s := s) m9.1 m9.2 hs
  have q10 := setB_rng (s := s) m10.1 m10.2 hs
  have q11 := setB_rng (s := s) m11.1 m11.2 hs
  simp only [m3_b M o, m3_c M, m3_uc M]
  rw [iN_eq (by omega) (by omega) (by omega) (by omega), iN_eq (by omega) (by omega) (by omega) (by omega), bit_in m9.1 m9.2 hs, bit_in m10.1 m10.2 hs, bit_in m11.1 m11.2 hs, or_bit m9.1 m9.2 hs, or_bit m10.1 m10.2 hs, or_bit m11.1 m11.2 hs, iN_small (z := setB (C 0 9) s) (by omega) (by omega), iN_small (z := setB (C 0 10) s) (by omega) (by omega), iN_small (z := setB (C 0 11) s) (by omega) (by omega)]
  unfold adVo at h
  have fin : ∀ j, voF (T 0 8) = j → (¬ inS (C 0 j) s = false → ((iN 0 = 0 ∨ iN 0 = 1) ∧ K (.int (iN 0), 0) (m3 M 1 2 rc A T (upd2 C 0 j (setB (C 0 j) s))))) ∧ (inS (C 0 j) s = false → ((iN 1 = 0 ∨ iN 1 = 1) ∧ K (.int (iN 1), 0) (m3 M 1 2 rc A T (upd2 C 0 j (setB (C 0 j) s))))) := by
    intro j e
    rw [e] at h
    refine ⟨fun c => ⟨z01, ?_⟩, fun c => ⟨o01, ?_⟩⟩
    · rw [Bool.not_eq_false] at c
      rw [c] at h; exact h
    · rw [c] at h; exact h
  refine ⟨fun c1 => ⟨fun c2 => fin 10 ?_, fun c2 => fin 11 ?_⟩, fun c1 => fin 9 ?_⟩
  · unfold voF; rw [if_neg c1, if_neg c2]
  · unfold voF; rw [if_neg c1, if_pos c2]
  · unfold voF; rw [if_pos c1]
theorem c_readVoices {l : Launch} {E : EnvT} {d : Nat} {K : AV → Mem → Prop} {M : Mem} {rc s : Nat} {A T C : Ch} {L : Nat} (hd : 7 ≤ d) (hq : 16 ≤ rc) (hT : TI T L) (L9 : L ≤ 900) (hX : XB M) (hV : VB C) (hs : s < 8) (h : K (.int (iN (b2i (rVo (M 0 2) L s 4 T C).1)), 0) (m3 M 1 2 rc A (rVo (M 0 2) L s 4 T C).2.1 (rVo (M 0 2) L s 4 T C).2.2)) : CT l E d m_CReader_readVoices [(.ref 1, 3), (.ref rc, 11), (.int (iN s), 0)] (m3 M 1 2 rc A T C) K := by
  refine CT.of pn_CReader (Nat.le_of_ble_eq_true rfl) ?_
  have o := O12 hq
  refine b_CReader_readVoices_0 (by omega) ?_
  have key : ∀ (m t : Nat) (T C : Ch), t + m = 4 → TI T L → VB C → K (.int (iN (b2i (rVo (M 0 2) L s m T C).1)), 0) (m3 M 1 2 rc A (rVo (M 0 2) L s m T C).2.1 (rVo (M 0 2) L s m T C).2.2) → G l E d m_CReader_readVoices 2 [(0, (.ref 1, 3)), (1, (.ref rc, 11)), (2, (.int (iN s), 0)), (3, (.int (iN t), 0))] [] (m3 M 1 2 rc A T C) K := by
    intro m
    induction m with
    | zero =>
      intro t T C ht hT hV h
      refine b_CReader_readVoices_2 (by omega) ⟨fun _ => ⟨o01, h⟩, fun c => absurd ((iN_lt (by omega) (by omega) (by omega) (by omega)).mpr (by omega)) c⟩
    | succ m ih =>
      intro t T C ht hT hV h
      have a8 := hT.2.2.2.2.2.2.2.2.1
      unfold rVo at h
      refine b_CReader_readVoices_2 (by omega) ⟨fun c => absurd ((iN_lt (by omega) (by omega) (by omega) (by omega)).mp c) (by omega), fun _ => ?_⟩
      rw [m3_b M o]
      refine c_isVoice (by omega) a8.1 a8.2 ?_
      rw [toI_int, b2i_z]
      refine ⟨fun c => c_addVoice (by omega) hq hT hV hs ?_, fun c => ⟨o01, ?_⟩⟩
      · rw [Bool.not_eq_false] at c
        rw [if_pos c] at h
        rw [toI_int, b2i_z, iN_add]
        refine ⟨fun c2 => c_advB (by omega) o hT L9 hX (ih (t + 1) _ _ (by omega) (adv_TI L9 hX hT) (VB_vo hV _ hs) ?_), fun c2 => c_rfB (by omega) o hT (by omega) (by omega) ⟨z01, ?_⟩⟩
        · rw [Bool.not_eq_false] at c2
          rw [if_pos c2] at h; exact h
        · rw [if_neg (by simp [c2])] at h; exact h
      · rw [if_neg (by simp [c])] at h; exact h
  exact key 4 0 T C rfl hT hV h
theorem c_readLine {l : Launch} {E : EnvT} {d : Nat} {K : AV → Mem → Prop} {M : Mem} {rc s : Nat} {A T C : Ch} {L : Nat} (hd : 7 ≤ d) (hq : 16 ≤ rc) (hT : TI T L) (L9 : L ≤ 900) (hX : XB M) (hV : VB C) (hs : s < 8) (h : K (.int (iN (b2i (rLine (M 0 2) L s T C).1)), 0) (m3 M 1 2 rc A (rLine (M 0 2) L s T C).2.1 (rLine (M 0 2) L s T C).2.2)) : CT l E d m_CReader_readLine [(.ref 1, 3), (.ref rc, 11), (.int (iN s), 0)] (m3 M 1 2 rc A T C) K := by
  refine CT.of pn_CReader (Nat.le_of_ble_eq_true rfl) ?_
  have o := O12 hq
  have key : ∀ (m t : Nat) (T C : Ch), t + m = 7 → C 4 s = t → TI T L → VB C → K (.int (iN (b2i (rLi (M 0 2) L s m t T C).1)), 0) (m3 M 1 2 rc A (rLi (M 0 2) L s m t T C).2.1 (rLi (M 0 2) L s m t T C).2.2) → G l E d m_CReader_readLine 16 [(0, (.ref 1, 3)), (1, (.ref rc, 11)), (2, (.int (iN s), 0)), (3, (.int (iN t), 0))] [] (m3 M 1 2 rc A T C) K := by
    intro m
    induction m with
    | zero =>
      intro t T C ht h4 hT hV h
      refine b_CReader_readLine_16 (by omega) ⟨fun _ => ⟨o01, h⟩, fun c => absurd ((iN_lt (by omega) (by omega) (by omega) (by omega)).mpr (by omega)) c⟩
    | succ m ih =>
      intro t T C ht h4 hT hV h
      have a3 := hT.2.2.2.1
      have a5 := hT.2.2.2.2.2.1
      have le := hV.le s hs
      unfold rLi at h
      have body : ¬ (0 < t ∧ T 0 3 ≠ 2) → CT l E (d - 1) m_Tokens_standsNumber [(.ref 2, 4), (.int (iN 0), 0), (.int (iN 24), 0)] (m3 M 1 2 rc A T C) (fun v1 M1 => ((¬ (toI v1) = 0 → ((¬ iN (t : Int) = (iN 6) → CT l E (d - 1) m_Choir_addNote [(.ref rc, 11), (.int (iN s), 0), (.int (iN (M1 2 0 5)), 0)] M1 (fun v2 M2 => CT l E (d - 1) m_Tokens_advance [(.ref 2, 4)] M2 (fun v3 M3 => G l E d m_CReader_readLine 16 [(0, (.ref 1, 3)), (1, (.ref rc, 11)), (2, (.int (iN s), 0)), (3, (.int (iN (t : Int) + iN 1), 0))] [] M3 K))) ∧ (iN (t : Int) = (iN 6) → CT l E (d - 1) m_Tokens_refuse [(.ref 2, 4), (.int (iN 6), 0)] M1 (fun v4 M4 => ((((toI v4) = 0 ∨ (toI v4) = 1)) ∧ K (.int (toI v4), 0) M4))))) ∧ ((toI v1) = 0 → ((((iN 0) = 0 ∨ (iN 0) = 1)) ∧ K (.int (iN 0), 0) M1)))) := by
        intro cc
        rw [if_neg cc] at h
        refine c_snB (by omega) o hT (by omega) (by omega) (by omega) (by omega) ?_
        rw [toI_int, b2i_z]
        refine ⟨fun c => ?_, fun c => ⟨z01, ?_⟩⟩
        · rw [Bool.not_eq_false] at c
          have q := nu_ok c
          rw [if_pos c] at h
          rw [q.1, iN_eq (by omega) (by omega) (by omega) (by omega), iN_add]
          refine ⟨fun c6 => ?_, fun c6 => c_rfB (by omega) o hT (by omega) (by omega) ⟨z01, ?_⟩⟩
          · rw [if_neg (by omega)] at h
            have e := setR_self (m3 M 1 2 rc A T C) rc
            rw [m3_c M] at e
            rw [m3_b M o, ← e]
            refine c_addNote (by omega) hV hs (by omega) (by omega) (by omega) ?_
            rw [m3_sc M]
            exact c_advB (by omega) o hT L9 hX (ih (t + 1) _ _ (by omega) (by rw [addNote_4, h4]; rfl) (adv_TI L9 hX hT) (VB_addNote hV hs (by omega) (by omega) (by omega)) h)
          · rw [if_pos (by omega)] at h; exact h
        · rw [if_neg (by simp [c])] at h; exact h
      refine b_CReader_readLine_16 (by omega) ⟨fun c => absurd ((iN_lt (by omega) (by omega) (by omega) (by omega)).mp c) (by omega), fun _ => ?_⟩
      rw [iN_le0 (by omega) (by omega), m3_b M o]
      refine ⟨fun c => body (by omega), fun c => ⟨fun c2 => body ?_, fun c2 => ⟨o01, ?_⟩⟩⟩
      · rw [iN_eq (by omega) (by omega) (by omega) (by omega)] at c2; omega
      · rw [iN_eq (by omega) (by omega) (by omega) (by omega)] at c2
        rw [if_pos ⟨(by omega), c2⟩] at h
        exact h
  refine b_CReader_readLine_0 (by omega) ⟨iN_in (by omega) (by omega) (by omega), ?_⟩
  rw [m3_uc M, iN_clN (by omega), iN_0I]
  exact c_advB (by omega) o hT L9 hX (key 7 0 _ _ rfl (by rw [upd2_same]; rfl) (adv_TI L9 hX hT) (VB_4 hV (by omega) (by omega)) h)
