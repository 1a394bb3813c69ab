/-- a choir as its holders are read: a new choir has no singer, and its holders stand at 0, where the reference's stand at -1 -/
def fx (C : Ch) : Ch := fun c k => if c = 6 ∧ C 0 8 = 0 then -1 else C c k
theorem fx_c (C : Ch) {c : Nat} (h : c ≠ 6) : fx C c = C c := by
  funext k
  show (if c = 6 ∧ C 0 8 = 0 then -1 else C c k) = C c k
  rw [if_neg (fun q => h q.1)]
theorem fx_n {C : Ch} (h : C 0 8 ≠ 0) : fx C = C := by
  funext c k
  show (if c = 6 ∧ C 0 8 = 0 then -1 else C c k) = C c k
  rw [if_neg (fun q => h q.2)]
theorem fx_6 {C : Ch} (h : C 0 8 = 0) (k : Nat) : fx C 6 k = -1 := by
  show (if 6 = 6 ∧ C 0 8 = 0 then -1 else C 6 k) = -1
  rw [if_pos ⟨rfl, h⟩]
theorem fx_8 (C : Ch) : fx C 0 8 = C 0 8 := by rw [fx_c C (by decide)]
theorem fx0 {C : Ch} (h : C 0 8 = 0) : fx C 0 8 = 0 := by rw [fx_8]; exact h
def WX (C : Ch) : Prop := VB C ∧ WC (fx C)
def RX (C : Ch) (A : Nat → Int) (B : Nat) : Prop := RR (fx C) A B
theorem RX_n {C : Ch} {A : Nat → Int} {B : Nat} (h0 : C 0 8 ≠ 0) : RX C A B ↔ RR C A B := by
  unfold RX
  rw [fx_n h0]
theorem WX_n {C : Ch} (h0 : C 0 8 ≠ 0) (h : WX C) : WC C := by
  have := h.2
  rw [fx_n h0] at this
  exact this
theorem VB_fx {C : Ch} (h : VB C) : VB (fx C) := by
  by_cases h0 : C 0 8 = 0
  · obtain ⟨a1, a2, a3, a4, a5, a6, a7, a8, a9, a10, a11, a12, a13, a14, a15⟩ := h
    simp (disch := decide) only [VB, fx_c]
    exact ⟨a1, a2, a3, a4, a5, a6, a7, a8, a9, fun i _ => by rw [fx_6 h0]; decide, a11, a12, a13, a14, a15⟩
  · rw [fx_n h0]; exact h
theorem WC.x {C : Ch} (h : WC C) : WX C := by
  by_cases h0 : C 0 8 = 0
  · obtain ⟨hV, w1, w2, w3, w4, w5, w6, w7, w8, w9, w10⟩ := h
    have h6 : ∀ i, i < 48 → C 6 i = -1 := fun i hi => by
      by_cases c : C 6 i = -1
      · exact c
      · have := (w2 i hi c).1
        omega
    refine ⟨hV, VB_fx hV, fun i hi => ?_, fun i hi hne => absurd (fx_6 h0 i) hne, fun i j _ _ _ _ _ => fx_6 h0 i, ?_, ?_, fun k hk i hi _ => ?_, ?_, ?_, ?_, ?_⟩
    · rw [fx_6 h0, fx_c C (by decide)]
      exact ⟨fun _ => (w1 i hi).mp (h6 i hi), fun _ => rfl⟩
    · simp (disch := decide) only [W4, alv, fx_c]; exact w4
    · simp (disch := decide) only [W5, fx_c]; exact w5
    · rw [fx_c C (by decide)] at hk
      have := (w4 k hk).1
      have := (hV.wa k (by have := hV.w; omega)).1
      omega
    · simp (disch := decide) only [W7, fx_c]; exact w7
    · simp (disch := decide) only [W8, fx_c]; exact w8
    · simp (disch := decide) only [W9, fx_c]; exact w9
    · simp (disch := decide) only [W10, fx_c]; exact w10
  · exact ⟨h.1, by rw [fx_n h0]; exact h⟩
theorem RR.x {C : Ch} {A : Nat → Int} {B : Nat} (hW : WC C) (h : RR C A B) : RX C A B := by
  by_cases h0 : C 0 8 = 0
  · obtain ⟨hV, w1, w2, w3, w4, w5, w6, w7, w8, w9, w10⟩ := hW
    have h6 : ∀ i, i < 48 → C 6 i = -1 := fun i hi => by
      by_cases c : C 6 i = -1
      · exact c
      · have := (w2 i hi c).1
        omega
    obtain ⟨h1, hs, hn, hh, hw⟩ := h
    simp (disch := decide) only [RX, RR, RRs, fx_c]
    refine ⟨h1, hs, hn, fun i hi => ?_, hw⟩
    rw [fx_6 h0]
    exact ⟨by rw [(hh i hi).1]; exact h6 i hi, (hh i hi).2⟩
  · exact (RX_n h0).mpr h
theorem RX.fr {C : Ch} {A A' : Nat → Int} {B : Nat} (hV : VB C) (h : RX C A B) (e : ∀ j, B ≤ j → j < B + 238 → A' j = A j) : RX C A' B := RR.fr (VB_fx hV) h e
/-- with no singer there is no debt and nobody waits -/
theorem WX_0 {C : Ch} (h : WX C) (h0 : C 0 8 = 0) : (∀ i, i < 48 → C 7 i = 0) ∧ C 8 3 = 0 := by
  obtain ⟨hV, hV2, w1, w2, w3, w4, w5⟩ := h
  refine ⟨fun i hi => ?_, ?_⟩
  · have := (w1 i hi).mp (fx_6 h0 i)
    rw [fx_c C (by decide)] at this
    exact this
  · have w := hV.w
    by_cases c : C 8 3 = 0
    · exact c
    · have q := (w4 0 (by rw [fx_c C (by decide)]; omega)).1
      rw [fx_c C (by decide), fx_8, h0] at q
      have := (hV.wa 0 (by omega)).1
      omega
theorem knows0 {C : Ch} {z : Int} (h0 : C 0 8 = 0) : knowsB C z = false := by
  unfold knowsB
  exact decide_eq_false (by omega)
theorem lives0 {C : Ch} {z : Int} (h0 : C 0 8 = 0) : livesB C z = false := by
  unfold livesB
  rw [decide_eq_false (by omega)]
  rfl
theorem two0 {C : Ch} {a b : Int} (h0 : C 0 8 = 0) : twoB C a b = false := by
  unfold twoB
  rw [lives0 h0]
  rfl
theorem note0 {C : Ch} {a b : Int} (h0 : C 0 8 = 0) : noteB C a b = false := by
  unfold noteB
  rw [knows0 h0]
  rfl
theorem knows_fx {C : Ch} {z : Int} : knowsB (fx C) z = knowsB C z := by
  unfold knowsB
  rw [fx_8]
theorem lives_fx {C : Ch} {z : Int} : livesB (fx C) z = livesB C z := by
  unfold livesB
  rw [fx_c C (show 0 ≠ 6 by decide)]
theorem note_fx {C : Ch} {a b : Int} : noteB (fx C) a b = noteB C a b := by
  unfold noteB
  rw [knows_fx, fx_c C (show 4 ≠ 6 by decide)]
theorem q_allOw {C : Ch} {w : Nat} : allOwC (fx C) w = allOwC C w := by
  simp (disch := decide) only [allOwC, linesIn, lineIn, fx_c]
theorem q_told {C : Ch} {z : Int} : toldQ (fx C) z = toldQ C z := by
  unfold toldQ
  rw [q_allOw, fx_c C (show 0 ≠ 6 by decide), fx_c C (show 7 ≠ 6 by decide), fx_c C (show 8 ≠ 6 by decide), fx_c C (show 2 ≠ 6 by decide)]
theorem q_singer {C : Ch} {a z : Int} : singerQ (fx C) a z = singerQ C a z := by
  by_cases h0 : C 0 8 = 0
  · unfold singerQ
    rw [knows0 h0, knows0 (fx0 h0)]
    rfl
  · rw [fx_n h0]
theorem q_line {C : Ch} {a b : Int} : lineQ (fx C) a b = lineQ C a b := by
  unfold lineQ
  rw [note_fx, fx_c C (show 5 ≠ 6 by decide)]
theorem q_owed {C : Ch} {a b : Int} : owedQ (fx C) a b = owedQ C a b := by
  by_cases h0 : C 0 8 = 0
  · unfold owedQ
    rw [knows0 h0, knows0 (fx0 h0)]
    rfl
  · rw [fx_n h0]
theorem q_waiting {C : Ch} {k z : Int} : waitQ (fx C) k z = waitQ C k z := by
  simp (disch := decide) only [waitQ, fx_c]
theorem q_liv0 {C D : Ch} {a : Int} {f g : Nat → Int} (h0 : C 0 8 = 0) (h1 : D 0 8 = 0) : livQ C a f = livQ D a g := by
  unfold livQ
  rw [lives0 h0, lives0 h1]
  rfl
theorem q_balance {C : Ch} {a : Int} : livQ (fx C) a (balC (fx C)) = livQ C a (balC C) := by
  by_cases h0 : C 0 8 = 0
  · exact q_liv0 (fx0 h0) h0
  · rw [fx_n h0]
theorem q_free {C : Ch} {a : Int} : livQ (fx C) a (freeC (fx C)) = livQ C a (freeC C) := by
  by_cases h0 : C 0 8 = 0
  · exact q_liv0 (fx0 h0) h0
  · rw [fx_n h0]
theorem q_queue {C : Ch} {a : Int} : livQ (fx C) a (fun s => cntN (fun k => fx C 10 k == (s : Int)) (fx C 8 3).toNat) = livQ C a (fun s => cntN (fun k => C 10 k == (s : Int)) (C 8 3).toNat) := by
  by_cases h0 : C 0 8 = 0
  · exact q_liv0 (fx0 h0) h0
  · rw [fx_n h0]
theorem q_grows {C : Ch} {x w : Int} : growQ (fx C) x w = growQ C x w := by
  simp (disch := decide) only [growQ, fx_c]
theorem q_owedIn {C : Ch} {w : Int} : owInQ (fx C) w = owInQ C w := by
  unfold owInQ
  rw [q_allOw]
theorem q_shorts {C : Ch} : msk (fun s => decide (0 < lackC (fx C) s)) (fx C 0 8).toNat = msk (fun s => decide (0 < lackC C s)) (C 0 8).toNat := by
  by_cases h0 : C 0 8 = 0
  · rw [fx_8, h0]; rfl
  · rw [fx_n h0]
theorem q_lacking {C : Ch} : sumN (lackC (fx C)) (fx C 0 8).toNat = sumN (lackC C) (C 0 8).toNat := by
  by_cases h0 : C 0 8 = 0
  · rw [fx_8, h0]; rfl
  · rw [fx_n h0]
theorem q_most {C : Ch} {z : Int} : mostF (measC (fx C) z) (fx C 0 8).toNat 0 (-1) 0 = mostF (measC C z) (C 0 8).toNat 0 (-1) 0 := by
  by_cases h0 : C 0 8 = 0
  · rw [fx_8, h0]; rfl
  · rw [fx_n h0]
theorem q_lS {C : Ch} {T : Mem} {a t : Int} : lS T (fx C) a t = lS T C a t := by
  unfold lS
  rw [lives_fx, fx_c C (show 4 ≠ 6 by decide)]
theorem q_hS {C : Ch} {T : Mem} {a t : Int} : hS T (fx C) a t = hS T C a t := by
  unfold hS
  rw [q_lS, fx_c C (show 4 ≠ 6 by decide)]
theorem lS0 {C : Ch} {T : Mem} {a t : Int} (h0 : C 0 8 = 0) : lS T C a t = 1 := by
  unfold lS
  rw [if_neg (fun q => by rw [lives0 h0] at q; cases q.1)]
theorem hS0 {C : Ch} {T : Mem} {a t : Int} (h0 : C 0 8 = 0) : hS T C a t = 1 := by
  unfold hS
  rw [lS0 h0, if_neg (by decide)]
theorem LK_fx {T C : Ch} {n : Nat} (h0 : C 0 8 = 0) (hn : C 0 8 = n) (hT : LK T C n) : LK T (fx C) n := by
  have n0 : n = 0 := by omega
  obtain ⟨t1, t2, -⟩ := hT
  refine ⟨t1, ?_, fun a ha => absurd ha (by omega)⟩
  rw [t2]
  unfold livM
  rw [fx_c C (by decide)]
theorem q_liv {C : Ch} {n : Nat} : livM (fx C) n = livM C n := by
  unfold livM
  rw [fx_c C (by decide)]
theorem frL_0 {C : Ch} {n : Nat} {X P : Nat → Int} (h0 : C 0 8 = 0) (hn : C 0 8 = n) : (frL X n 3 (n - 2) P).1 = 0 := by
  have n0 : n = 0 := by omega
  subst n0
  rfl
/-- what every change of a choir keeps -/
def KP (C C' : Ch) : Prop := WC C' ∧ C' 0 8 = C 0 8 ∧ C' 1 = C 1
theorem KP_lend {C : Ch} {a b n : Int} (h : WC C) (n1 : 1 ≤ n) (n2 : n ≤ 999) : KP C (lendC C a b n).2 := by
  refine ⟨WC_lend h n1 n2, lendC_08, ?_⟩
  unfold lendC
  split
  · dsimp only
    rw [upd2_c _ _ (by decide), upd2_c _ _ (by decide), oweC_c (by decide)]
  · rfl
theorem KP_pay {C : Ch} {a b n : Int} (h : WC C) (n1 : 0 ≤ n) : KP C (payC C a b n).2 := by
  refine ⟨WC_pay h n1, payC_08 (by decide), ?_⟩
  unfold payC
  split
  · show settleC _ 1 = _
    rw [settleC_c (by decide), takeOffC_c (by decide) (by decide), handC_c (by decide) (by decide)]
  · rfl
theorem KP_net {C : Ch} {a b : Int} (h : WC C) : KP C (netC C a b).2 := ⟨WC_net h, by rw [netC_c (by decide)], netC_c (by decide)⟩
theorem KP_sun {C : Ch} (h : WC C) : KP C (sunC C).2 := by
  refine ⟨WC_sunC h, sun_15 (by decide), ?_⟩
  unfold sunC
  split
  · dsimp only
    rw [sunP_c C _ _ (by decide) (by decide)]
  · rfl
theorem KP_cold {C : Ch} {z : Int} (h : WC C) : KP C (coldC C z).2 := by
  refine ⟨WC_cold h, cold_08, ?_⟩
  unfold coldC
  split
  · show settleC _ 1 = _
    rw [settleC_c (by decide), upd2_c _ _ (by decide), coldF_c _ (by decide) (by decide) (by decide) (by decide)]
  · rfl
theorem KP_bury {C : Ch} {z : Int} (h : WC C) : KP C (buryC C z).2 := by
  refine ⟨WC_bury h, bury_15 (by decide) (by decide), ?_⟩
  unfold buryC
  split
  · dsimp only
    rw [settleC_c (by decide), upd2_c _ _ (by decide), upd2_c _ _ (by decide), buryC1_c (by decide)]
  · rfl
theorem netAF_c (n : Nat) {c : Nat} (h : c ≠ 6 ∧ c ≠ 7 ∧ c ≠ 8 ∧ c ≠ 9 ∧ c ≠ 10 ∧ c ≠ 11) : ∀ (m a : Nat) (q : Int × Ch), (netAllF n m a q).2 c = q.2 c
  | 0, _, _ => rfl
  | m + 1, a, q => by
    show (netAllF n m (a + 1) (netRow a (n - (a + 1)) (a + 1) q)).2 c = q.2 c
    rw [netAF_c n h m (a + 1), netRow_c a h]
theorem KP_all {C : Ch} (h : WC C) : KP C (netAllC C).2 := by
  have e : ∀ c, (c ≠ 6 ∧ c ≠ 7 ∧ c ≠ 8 ∧ c ≠ 9 ∧ c ≠ 10 ∧ c ≠ 11) → (netAllC C).2 c = C c := fun c hc => by unfold netAllC; rw [netAF_c _ hc]
  exact ⟨WC_netAll h, by rw [e 0 (by decide)], e 1 (by decide)⟩
theorem ringO_c (P : Nat → Int) (n : Nat) (off : Int) {c : Nat} (h6 : c ≠ 6) (h7 : c ≠ 7) : ∀ (m k : Nat) (C : Ch), ringOff P n off m k C c = C c
  | 0, _, _ => rfl
  | m + 1, k, C => by
    show ringOff P n off m (k + 1) (if slotOfC C (P k) (P ((k + 1) % n)).toNat = -1 then C else takeOffC C (slotOfC C (P k) (P ((k + 1) % n)).toNat).toNat off) c = C c
    rw [ringO_c P n off h6 h7 m (k + 1)]
    split
    · rfl
    · exact takeOffC_c h6 h7
def KX (C C' : Ch) : Prop := WX C' ∧ C' 0 8 = C 0 8 ∧ C' 1 = C 1
theorem KP.x {C C' : Ch} (h : KP C C') : KX C C' := ⟨h.1.x, h.2⟩
theorem KX.rf {C : Ch} (h : WX C) : KX C C := ⟨h, rfl, rfl⟩
theorem fx_eq {α : Type} {f : Ch → α × Ch} {C : Ch} (h : C 0 8 = 0 → f (fx C) = ((f C).1, fx (f C).2)) (h8 : C 0 8 ≠ 0 → (f C).2 0 8 = C 0 8) : f (fx C) = ((f C).1, fx (f C).2) := by
  by_cases h0 : C 0 8 = 0
  · exact h h0
  · rw [fx_n h0, fx_n (by rw [h8 h0]; exact h0)]
theorem q_lend {C : Ch} {a b n : Int} : lendQ (fx C) a b n = ((lendQ C a b n).1, fx (lendQ C a b n).2) := by
  refine fx_eq (f := fun D => lendQ D a b n) (fun h0 => ?_) (fun _ => ?_)
  · show lendQ (fx C) a b n = ((lendQ C a b n).1, fx (lendQ C a b n).2)
    unfold lendQ
    rw [two0 h0, two0 (fx0 h0)]
    rfl
  · show (lendQ C a b n).2 0 8 = C 0 8
    unfold lendQ
    split
    · exact lendC_08
    · rfl
theorem q_pay {C : Ch} {a b n : Int} : payQ (fx C) a b n = ((payQ C a b n).1, fx (payQ C a b n).2) := by
  refine fx_eq (f := fun D => payQ D a b n) (fun h0 => ?_) (fun _ => ?_)
  · show payQ (fx C) a b n = ((payQ C a b n).1, fx (payQ C a b n).2)
    unfold payQ
    rw [two0 h0, two0 (fx0 h0)]
    rfl
  · show (payQ C a b n).2 0 8 = C 0 8
    unfold payQ
    split
    · exact payC_08 (by decide)
    · rfl
theorem q_chord {C : Ch} {a b : Int} : chordQ (fx C) a b = ((chordQ C a b).1, fx (chordQ C a b).2) := by
  refine fx_eq (f := fun D => chordQ D a b) (fun h0 => ?_) (fun _ => ?_)
  · show chordQ (fx C) a b = ((chordQ C a b).1, fx (chordQ C a b).2)
    unfold chordQ
    rw [two0 h0, two0 (fx0 h0)]
    rfl
  · show (chordQ C a b).2 0 8 = C 0 8
    unfold chordQ
    split
    · show (netC C a b).2 0 8 = C 0 8
      rw [netC_c (by decide)]
    · rfl
theorem q_cold {C : Ch} {a : Int} : coldQ (fx C) a = ((coldQ C a).1, fx (coldQ C a).2) := by
  refine fx_eq (f := fun D => coldQ D a) (fun h0 => ?_) (fun _ => ?_)
  · show coldQ (fx C) a = ((coldQ C a).1, fx (coldQ C a).2)
    unfold coldQ
    rw [lives0 h0, lives0 (fx0 h0)]
    rfl
  · show (coldQ C a).2 0 8 = C 0 8
    unfold coldQ
    split
    · exact cold_08
    · rfl
theorem q_die {C : Ch} {a : Int} : dieQ (fx C) a = ((dieQ C a).1, fx (dieQ C a).2) := by
  refine fx_eq (f := fun D => dieQ D a) (fun h0 => ?_) (fun _ => ?_)
  · show dieQ (fx C) a = ((dieQ C a).1, fx (dieQ C a).2)
    unfold dieQ
    rw [lives0 h0, lives0 (fx0 h0)]
    rfl
  · show (dieQ C a).2 0 8 = C 0 8
    unfold dieQ
    split
    · exact bury_15 (by decide) (by decide)
    · rfl
theorem fx_f {C : Ch} {j : Nat} {v : Int} (h : j ≠ 8) : upd2 (fx C) 0 j v = fx (upd2 C 0 j v) := by
  funext c k
  show _ = (if c = 6 ∧ upd2 C 0 j v 0 8 = 0 then -1 else upd2 C 0 j v c k)
  rw [upd2_k _ _ (fun q => h q.symm)]
  by_cases e : c = 0
  · subst e
    rw [if_neg (fun q => absurd q.1 (by decide)), upd2_at, upd2_at, fx_c C (by decide)]
  · rw [upd2_c _ _ e, upd2_c _ _ e]
    rfl
theorem sun_0 {C : Ch} (h0 : C 0 8 = 0) : sunC C = if C 0 14 < 9999 then (true, upd2 C 0 14 (C 0 14 + 1)) else (false, C) := by
  unfold sunC
  rw [h0, show (0 : Int).toNat = 0 from rfl, sunP_00]
theorem q_sunC {C : Ch} : sunC (fx C) = ((sunC C).1, fx (sunC C).2) := by
  refine fx_eq (f := sunC) (fun h0 => ?_) (fun _ => sun_15 (by decide))
  rw [sun_0 h0, sun_0 (fx0 h0), fx_c C (show 0 ≠ 6 by decide)]
  split
  · rw [fx_f (by decide)]
  · rfl
theorem q_sun {C : Ch} : sunQ (fx C) = ((sunQ C).1, fx (sunQ C).2) := by
  unfold sunQ
  rw [q_sunC]
  dsimp only
  rw [q_allOw]
theorem q_hum {C : Ch} {z : Int} : humQ (fx C) z = ((humQ C z).1, fx (humQ C z).2) := by
  unfold humQ
  split
  · rw [fx_f (by decide)]
  · rfl
theorem q_all {C : Ch} : netAllC (fx C) = ((netAllC C).1, fx (netAllC C).2) := by
  refine fx_eq (f := netAllC) (fun h0 => ?_) (fun _ => ?_)
  · unfold netAllC
    rw [fx_8, h0]
    rfl
  · have e : ∀ c, (c ≠ 6 ∧ c ≠ 7 ∧ c ≠ 8 ∧ c ≠ 9 ∧ c ≠ 10 ∧ c ≠ 11) → (netAllC C).2 c = C c := fun c hc => by unfold netAllC; rw [netAF_c _ hc]
    rw [e 0 (by decide)]
theorem q_bass {C : Ch} {n : Nat} : bassC (fx C) n = bassC C n := by
  simp (disch := decide) only [bassC, isOwC, fx_c]
theorem KX_lend {C : Ch} {a b n : Int} (h : WX C) : KX C (lendQ C a b n).2 := by
  by_cases h0 : C 0 8 = 0
  · unfold lendQ
    rw [two0 h0]
    exact KX.rf h
  · unfold lendQ
    split
    · rename_i c
      rw [Bool.and_eq_true] at c
      have := of_decide_eq_true c.2
      exact (KP_lend (WX_n h0 h) (by omega) (by omega)).x
    · exact KX.rf h
theorem KX_pay {C : Ch} {a b n : Int} (h : WX C) : KX C (payQ C a b n).2 := by
  by_cases h0 : C 0 8 = 0
  · unfold payQ
    rw [two0 h0]
    exact KX.rf h
  · unfold payQ
    split
    · rename_i c
      rw [Bool.and_eq_true] at c
      have := of_decide_eq_true c.2
      exact (KP_pay (WX_n h0 h) (by omega)).x
    · exact KX.rf h
theorem KX_chord {C : Ch} {a b : Int} (h : WX C) : KX C (chordQ C a b).2 := by
  by_cases h0 : C 0 8 = 0
  · unfold chordQ
    rw [two0 h0]
    exact KX.rf h
  · unfold chordQ
    split
    · exact (KP_net (WX_n h0 h)).x
    · exact KX.rf h
theorem KX_cold {C : Ch} {a : Int} (h : WX C) : KX C (coldQ C a).2 := by
  by_cases h0 : C 0 8 = 0
  · unfold coldQ
    rw [lives0 h0]
    exact KX.rf h
  · unfold coldQ
    split
    · exact (KP_cold (WX_n h0 h)).x
    · exact KX.rf h
theorem KX_die {C : Ch} {a : Int} (h : WX C) : KX C (dieQ C a).2 := by
  by_cases h0 : C 0 8 = 0
  · unfold dieQ
    rw [lives0 h0]
    exact KX.rf h
  · unfold dieQ
    split
    · exact (KP_bury (WX_n h0 h)).x
    · exact KX.rf h
theorem KX_sun {C : Ch} (h : WX C) : KX C (sunC C).2 := by
  have k := KP_sun h.2
  have v := VB_sunC h.1
  refine ⟨⟨v, ?_⟩, sun_15 (by decide), ?_⟩
  · have := k.1
    rw [q_sunC] at this
    exact this
  · unfold sunC
    split
    · dsimp only
      rw [sunP_c C _ _ (by decide) (by decide)]
    · rfl
theorem KX_all {C : Ch} (h : WX C) : KX C (netAllC C).2 := by
  by_cases h0 : C 0 8 = 0
  · have e : netAllC C = (0, C) := by
      unfold netAllC
      rw [h0]
      rfl
    rw [e]
    exact KX.rf h
  · exact (KP_all (WX_n h0 h)).x
theorem KX_hum {C : Ch} {z : Int} (h : WX C) : KX C (humQ C z).2 := by
  unfold humQ
  split
  · rename_i c
    have := of_decide_eq_true c
    have v := VB_f13 h.1 (v := z) (by omega) (by omega)
    refine ⟨⟨v, ?_⟩, ?_, ?_⟩
    · have w := WC_f (j := 13) (v := z) h.2 (by omega) (VB_f13 h.2.1 (by omega) (by omega))
      rw [fx_f (by decide)] at w
      exact w
    · dsimp only
      rw [upd2_k _ _ (by decide)]
    · dsimp only
      rw [upd2_c _ _ (by decide)]
  · exact KX.rf h
theorem lives_n {C : Ch} {a : Int} (h : livesB C a = true) : C 0 8 ≠ 0 := fun h0 => by
  rw [lives0 h0] at h
  cases h
/-- the class's clear, over WX -/
theorem c_clearX {l : Launch} {E : EnvT} {d : Nat} {K : AV → Mem → Prop} {M : Mem} {rc n : Nat} (hd : 12 ≤ d) (hF : FC M rc) (hW : WX (M rc)) (hn : M rc 0 8 = n) (h7 : ∀ T T' : Ch, LK T (M rc) n → (frL (T 2) n 3 (n - 2) (T 4)).1 = 0 → K (.int (iN (-1)), 0) (stM (setR M 12 T') 7)) (hy : ∀ (T T' : Ch) (len : Nat), LK T (M rc) n → (frL (T 2) n 3 (n - 2) (T 4)).1 = len → 1 ≤ len → K (.int (iN (ringMin (M rc) (frL (T 2) n 3 (n - 2) (T 4)).2 len len)), 0) (stM (setR (setR M 12 T') rc (settleC (ringOff (frL (T 2) n 3 (n - 2) (T 4)).2 len (ringMin (M rc) (frL (T 2) n 3 (n - 2) (T 4)).2 len len) len 0 (M rc)))) 0)) : CT l E d m_FN_clear [(.ref 0, 0)] M K := by
  by_cases h0 : M rc 0 8 = 0
  · refine CT.of pn_FN (Nat.le_of_ble_eq_true rfl) ?_
    have hV := hF.2.2
    have h8 := hV.n
    have hr := hF.2.1
    refine b_FN_clear_0 (by omega) ?_
    rw [hF.eq]
    refine ⟨hF.cl, c_look (by omega) (by omega) hV hn (fun T hT => ?_)⟩
    refine c_findRound (by omega) hT.1 (by omega) (hT.n (by omega)) ?_
    have fr := frL_0 (X := T 2) (P := T 4) h0 hn
    have h7 := h7 T (setC T 4 (frL (T 2) n 3 (n - 2) (T 4)).2) hT
    rw [toI_int, iN_eq0 (by omega) (by omega)]
    exact ⟨fun c => absurd fr c, fun c => c_refuse (by omega) (by omega) (by omega) (h7 c)⟩
  · exact c_clearQ hd hF (WX_n h0 hW) hn h7 hy
theorem x_told {l : Launch} {E : EnvT} {d : Nat} {K : AV → Mem → Prop} {M : Mem} {C Z : Ch} {A : Nat → Int} {z : Int} (hd : 8 ≤ d) (hB : Z 0 21 = 0) (hW : WX C) (hR : RX C A 0) (z1 : -2147483648 ≤ z) (z2 : z < 2147483648) (h : K (.int (iN (toldQ C z).1), 0) (zA M (sZ Z (toldQ C z).2) A)) : CT l E d m_Mod_told [(.ref 24, 41), (.int (iN z), 0)] (zA M Z A) K := by
  exact r_told hd hB hW.2 hR z1 z2 (by rw [q_told]; exact h)
theorem x_singer {l : Launch} {E : EnvT} {d : Nat} {K : AV → Mem → Prop} {M : Mem} {C Z : Ch} {A : Nat → Int} {a z : Int} (hd : 7 ≤ d) (hB : Z 0 21 = 0) (hW : WX C) (hR : RX C A 0) (a1 : -2147483648 ≤ a) (a2 : a < 2147483648) (z1 : -2147483648 ≤ z) (z2 : z < 2147483648) (h : K (.int (iN (singerQ C a z).1), 0) (zA M (sZ Z (singerQ C a z).2) A)) : CT l E d m_Mod_singer [(.ref 24, 41), (.int (iN a), 0), (.int (iN z), 0)] (zA M Z A) K := by
  exact r_singer hd hB hW.2 hR a1 a2 z1 z2 (by rw [q_singer]; exact h)
theorem x_line {l : Launch} {E : EnvT} {d : Nat} {K : AV → Mem → Prop} {M : Mem} {C Z : Ch} {A : Nat → Int} {a b : Int} (hd : 4 ≤ d) (hB : Z 0 21 = 0) (hV : VB C) (hR : RX C A 0) (a1 : -2147483648 ≤ a) (a2 : a < 2147483648) (z1 : -2147483648 ≤ b) (z2 : b < 2147483648) (h : K (.int (iN (lineQ C a b).1), 0) (zA M (sZ Z (lineQ C a b).2) A)) : CT l E d m_Mod_line [(.ref 24, 41), (.int (iN a), 0), (.int (iN b), 0)] (zA M Z A) K := by
  exact r_line hd hB (VB_fx hV) hR a1 a2 z1 z2 (by rw [q_line]; exact h)
theorem x_owed {l : Launch} {E : EnvT} {d : Nat} {K : AV → Mem → Prop} {M : Mem} {C Z : Ch} {A : Nat → Int} {a b : Int} (hd : 6 ≤ d) (hB : Z 0 21 = 0) (hV : VB C) (hR : RX C A 0) (a1 : -2147483648 ≤ a) (a2 : a < 2147483648) (z1 : -2147483648 ≤ b) (z2 : b < 2147483648) (h : K (.int (iN (owedQ C a b).1), 0) (zA M (sZ Z (owedQ C a b).2) A)) : CT l E d m_Mod_owed [(.ref 24, 41), (.int (iN a), 0), (.int (iN b), 0)] (zA M Z A) K := by
  exact r_owed hd hB (VB_fx hV) hR a1 a2 z1 z2 (by rw [q_owed]; exact h)
theorem x_waiting {l : Launch} {E : EnvT} {d : Nat} {K : AV → Mem → Prop} {M : Mem} {C Z : Ch} {A : Nat → Int} {k z : Int} (hd : 2 ≤ d) (hV : VB C) (hR : RX C A 0) (a1 : -2147483648 ≤ k) (a2 : k < 2147483648) (z1 : -2147483648 ≤ z) (z2 : z < 2147483648) (h : K (.int (iN (waitQ C k z).1), 0) (zA M (sZ Z (waitQ C k z).2) A)) : CT l E d m_Mod_waiting [(.ref 24, 41), (.int (iN k), 0), (.int (iN z), 0)] (zA M Z A) K := by
  exact r_waiting hd (VB_fx hV) hR a1 a2 z1 z2 (by rw [q_waiting]; exact h)
theorem x_balance {l : Launch} {E : EnvT} {d : Nat} {K : AV → Mem → Prop} {M : Mem} {C Z : Ch} {A : Nat → Int} {a : Int} (hd : 8 ≤ d) (hB : Z 0 21 = 0) (hW : WX C) (hR : RX C A 0) (a1 : -2147483648 ≤ a) (a2 : a < 2147483648) (h : K (.int (iN (livQ C a (balC C)).1), 0) (zA M (sZ Z (livQ C a (balC C)).2) A)) : CT l E d m_Mod_balance [(.ref 24, 41), (.int (iN a), 0)] (zA M Z A) K := by
  exact r_balance hd hB hW.2 hR a1 a2 (by rw [q_balance]; exact h)
theorem x_free {l : Launch} {E : EnvT} {d : Nat} {K : AV → Mem → Prop} {M : Mem} {C Z : Ch} {A : Nat → Int} {a : Int} (hd : 5 ≤ d) (hB : Z 0 21 = 0) (hV : VB C) (hR : RX C A 0) (a1 : -2147483648 ≤ a) (a2 : a < 2147483648) (h : K (.int (iN (livQ C a (freeC C)).1), 0) (zA M (sZ Z (livQ C a (freeC C)).2) A)) : CT l E d m_Mod_free [(.ref 24, 41), (.int (iN a), 0)] (zA M Z A) K := by
  exact r_free hd hB (VB_fx hV) hR a1 a2 (by rw [q_free]; exact h)
theorem x_queue {l : Launch} {E : EnvT} {d : Nat} {K : AV → Mem → Prop} {M : Mem} {C Z : Ch} {A : Nat → Int} {a : Int} (hd : 5 ≤ d) (hB : Z 0 21 = 0) (hV : VB C) (hR : RX C A 0) (a1 : -2147483648 ≤ a) (a2 : a < 2147483648) (h : K (.int (iN (livQ C a (fun s => cntN (fun k => C 10 k == (s : Int)) (C 8 3).toNat)).1), 0) (zA M (sZ Z (livQ C a (fun s => cntN (fun k => C 10 k == (s : Int)) (C 8 3).toNat)).2) A)) : CT l E d m_Mod_queue [(.ref 24, 41), (.int (iN a), 0)] (zA M Z A) K := by
  exact r_queue hd hB (VB_fx hV) hR a1 a2 (by rw [q_queue]; exact h)
theorem x_grows {l : Launch} {E : EnvT} {d : Nat} {K : AV → Mem → Prop} {M : Mem} {C Z : Ch} {A : Nat → Int} {x w : Int} (hd : 4 ≤ d) (hV : VB C) (hR : RX C A 0) (x1 : -2147483648 ≤ x) (x2 : x < 2147483648) (w1 : -2147483648 ≤ w) (w2 : w < 2147483648) (h : K (.int (iN (growQ C x w).1), 0) (zA M (sZ Z (growQ C x w).2) A)) : CT l E d m_Mod_grows [(.ref 24, 41), (.int (iN x), 0), (.int (iN w), 0)] (zA M Z A) K := by
  exact r_grows hd (VB_fx hV) hR x1 x2 w1 w2 (by rw [q_grows]; exact h)
theorem x_owedIn {l : Launch} {E : EnvT} {d : Nat} {K : AV → Mem → Prop} {M : Mem} {C Z : Ch} {A : Nat → Int} {w : Int} (hd : 8 ≤ d) (hB : Z 0 21 = 0) (hW : WX C) (hR : RX C A 0) (w1 : -2147483648 ≤ w) (w2 : w < 2147483648) (h : K (.int (iN (owInQ C w).1), 0) (zA M (sZ Z (owInQ C w).2) A)) : CT l E d m_Mod_owedIn [(.ref 24, 41), (.int (iN w), 0)] (zA M Z A) K := by
  exact r_owedIn hd hB hW.2 hR w1 w2 (by rw [q_owedIn]; exact h)
theorem x_shorts {l : Launch} {E : EnvT} {d : Nat} {K : AV → Mem → Prop} {M : Mem} {C Z : Ch} {A : Nat → Int} (hd : 9 ≤ d) (hB : Z 0 21 = 0) (hW : WX C) (hR : RX C A 0) (h : K (.int (iN (msk (fun s => decide (0 < lackC C s)) (C 0 8).toNat : Nat)), 0) (zA M (sZ Z 0) A)) : CT l E d m_Mod_shorts [(.ref 24, 41)] (zA M Z A) K := by
  exact r_shorts hd hB hW.2 hR (by rw [q_shorts]; exact h)
theorem x_lacking {l : Launch} {E : EnvT} {d : Nat} {K : AV → Mem → Prop} {M : Mem} {C Z : Ch} {A : Nat → Int} (hd : 9 ≤ d) (hB : Z 0 21 = 0) (hW : WX C) (hR : RX C A 0) (h : K (.int (iN (sumN (lackC C) (C 0 8).toNat)), 0) (zA M (sZ Z 0) A)) : CT l E d m_Mod_lacking [(.ref 24, 41)] (zA M Z A) K := by
  exact r_lacking hd hB hW.2 hR (by rw [q_lacking]; exact h)
theorem x_richest {l : Launch} {E : EnvT} {d : Nat} {K : AV → Mem → Prop} {M : Mem} {C Z : Ch} {A : Nat → Int} (hd : 7 ≤ d) (hB : Z 0 21 = 0) (hW : WX C) (hR : RX C A 0) (h : K (.int (iN (ansOr (mostF (measC C 0) (C 0 8).toNat 0 (-1) 0) 6).1), 0) (zA M (sZ Z (ansOr (mostF (measC C 0) (C 0 8).toNat 0 (-1) 0) 6).2) A)) : CT l E d m_Mod_richest [(.ref 24, 41)] (zA M Z A) K := by
  exact r_richest hd hB hW.2 hR (by rw [q_most]; exact h)
theorem x_deepest {l : Launch} {E : EnvT} {d : Nat} {K : AV → Mem → Prop} {M : Mem} {C Z : Ch} {A : Nat → Int} (hd : 7 ≤ d) (hB : Z 0 21 = 0) (hW : WX C) (hR : RX C A 0) (h : K (.int (iN (ansOr (mostF (measC C 1) (C 0 8).toNat 0 (-1) 0) 6).1), 0) (zA M (sZ Z (ansOr (mostF (measC C 1) (C 0 8).toNat 0 (-1) 0) 6).2) A)) : CT l E d m_Mod_deepest [(.ref 24, 41)] (zA M Z A) K := by
  exact r_deepest hd hB hW.2 hR (by rw [q_most]; exact h)
theorem x_roomiest {l : Launch} {E : EnvT} {d : Nat} {K : AV → Mem → Prop} {M : Mem} {C Z : Ch} {A : Nat → Int} (hd : 7 ≤ d) (hB : Z 0 21 = 0) (hW : WX C) (hR : RX C A 0) (h : K (.int (iN (ansOr (mostF (measC C 2) (C 0 8).toNat 0 (-1) 0) 6).1), 0) (zA M (sZ Z (ansOr (mostF (measC C 2) (C 0 8).toNat 0 (-1) 0) 6).2) A)) : CT l E d m_Mod_roomiest [(.ref 24, 41)] (zA M Z A) K := by
  exact r_roomiest hd hB hW.2 hR (by rw [q_most]; exact h)
theorem x_held {l : Launch} {E : EnvT} {d : Nat} {K : AV → Mem → Prop} {M : Mem} {C Z : Ch} {A : Nat → Int} {a b z : Int} (hd : 4 ≤ d) (hB : Z 0 21 = 0) (hV : VB C) (hR : RX C A 0) (a1 : -2147483648 ≤ a) (a2 : a < 2147483648) (b1 : -2147483648 ≤ b) (b2 : b < 2147483648) (z1 : -2147483648 ≤ z) (z2 : z < 2147483648) (hn : ¬ (noteB C a b = true ∧ 0 ≤ z ∧ z ≤ 1) → K (.int (iN (-1)), 0) (zA M (sZ Z 1) A)) (hy : ∀ s k : Nat, a = s → b = k → noteB C a b = true → 0 ≤ z → z ≤ 1 → ((C 6 (6 * s + k) = -1 → K (.int (iN (-1)), 0) (zA M (sZ Z 6) A)) ∧ (C 6 (6 * s + k) ≠ -1 → K (.int (iN (if z = 0 then C 6 (6 * s + k) else C 7 (6 * s + k))), 0) (zA M (sZ Z 0) A)))) : CT l E d m_Mod_held [(.ref 24, 41), (.int (iN a), 0), (.int (iN b), 0), (.int (iN z), 0)] (zA M Z A) K := by
  by_cases h0 : C 0 8 = 0
  · exact r_held hd hB (VB_fx hV) hR a1 a2 b1 b2 z1 z2 (fun _ => hn (fun q => by rw [note0 h0] at q; cases q.1)) (fun _ _ _ _ c => by rw [note0 (fx0 h0)] at c; cases c)
  · exact r_held hd hB hV ((RX_n h0).mp hR) a1 a2 b1 b2 z1 z2 hn hy
theorem x_sung {l : Launch} {E : EnvT} {d : Nat} {K : AV → Mem → Prop} {M : Mem} {C Z : Ch} {A : Nat → Int} {a b : Int} (hd : 5 ≤ d) (hB : Z 0 21 = 0) (hV : VB C) (hR : RX C A 0) (a1 : -2147483648 ≤ a) (a2 : a < 2147483648) (b1 : -2147483648 ≤ b) (b2 : b < 2147483648) (hn : ¬ (livesB C a = true ∧ noteB C a b = true) → K (.int (iN (-1)), 0) (zA M (sZ Z 1) A)) (hy : livesB C a = true → noteB C a b = true → K (.int (iN (sungC C a.toNat b.toNat)), 0) (zA M (sZ Z 0) A)) : CT l E d m_Mod_sung [(.ref 24, 41), (.int (iN a), 0), (.int (iN b), 0)] (zA M Z A) K := by
  by_cases h0 : C 0 8 = 0
  · exact r_sung hd hB (VB_fx hV) hR a1 a2 b1 b2 (fun _ => hn (fun q => by rw [lives0 h0] at q; cases q.1)) (fun c => by rw [lives0 (fx0 h0)] at c; cases c)
  · exact r_sung hd hB hV ((RX_n h0).mp hR) a1 a2 b1 b2 hn hy
theorem x_falsest {l : Launch} {E : EnvT} {d : Nat} {K : AV → Mem → Prop} {M : Mem} {C Z : Ch} {A : Nat → Int} {a : Int} (hd : 5 ≤ d) (hB : Z 0 21 = 0) (hV : VB C) (hR : RX C A 0) (a1 : -2147483648 ≤ a) (a2 : a < 2147483648) (hn : livesB C a = false → K (.int (iN (-1)), 0) (zA M (sZ Z 1) A)) (h : livesB C a = true → K (.int (iN (ansOr (mostF (fun k => C 7 (6 * a.toNat + k)) (C 4 a.toNat).toNat 0 (-1) 0) 6).1), 0) (zA M (sZ Z (ansOr (mostF (fun k => C 7 (6 * a.toNat + k)) (C 4 a.toNat).toNat 0 (-1) 0) 6).2) A)) : CT l E d m_Mod_falsest [(.ref 24, 41), (.int (iN a), 0)] (zA M Z A) K := by
  by_cases h0 : C 0 8 = 0
  · exact r_falsest hd hB (VB_fx hV) hR a1 a2 (fun _ => hn (lives0 h0)) (fun c => by rw [lives0 (fx0 h0)] at c; cases c)
  · exact r_falsest hd hB hV ((RX_n h0).mp hR) a1 a2 hn h
theorem x_whose {l : Launch} {E : EnvT} {d : Nat} {K : AV → Mem → Prop} {M : Mem} {C Z : Ch} {A : Nat → Int} {a b : Int} (hd : 5 ≤ d) (hB : Z 0 21 = 0) (hV : VB C) (hR : RX C A 0) (a1 : -2147483648 ≤ a) (a2 : a < 2147483648) (b1 : -2147483648 ≤ b) (b2 : b < 2147483648) (hn : ¬ (livesB C a = true ∧ 1 ≤ b ∧ b ≤ 999) → K (.int (iN (-1)), 0) (zA M (sZ Z 1) A)) (h6 : livesB C a = true → 1 ≤ b → b ≤ 999 → fnd (fun k => C 7 (6 * a.toNat + k) == b) (C 4 a.toNat).toNat = -1 → K (.int (iN (-1)), 0) (zA M (sZ Z 6) A)) (hy : livesB C a = true → 1 ≤ b → b ≤ 999 → ∀ j : Nat, fnd (fun k => C 7 (6 * a.toNat + k) == b) (C 4 a.toNat).toNat = j → K (.int (iN (C 6 (6 * a.toNat + j))), 0) (zA M (sZ Z 0) A)) : CT l E d m_Mod_whose [(.ref 24, 41), (.int (iN a), 0), (.int (iN b), 0)] (zA M Z A) K := by
  by_cases h0 : C 0 8 = 0
  · exact r_whose hd hB (VB_fx hV) hR a1 a2 b1 b2 (fun _ => hn (fun q => by rw [lives0 h0] at q; cases q.1)) (fun c => by rw [lives0 (fx0 h0)] at c; cases c) (fun c => by rw [lives0 (fx0 h0)] at c; cases c)
  · exact r_whose hd hB hV ((RX_n h0).mp hR) a1 a2 b1 b2 hn h6 hy
theorem x_before {l : Launch} {E : EnvT} {d : Nat} {K : AV → Mem → Prop} {M : Mem} {C Z : Ch} {A : Nat → Int} {x w : Int} (hd : 4 ≤ d) (hV : VB C) (hR : RX C A 0) (a1 : -2147483648 ≤ x) (a2 : x < 2147483648) (b1 : -2147483648 ≤ w) (b2 : w < 2147483648) (hn : ¬ (0 ≤ x ∧ x ≤ 999 ∧ 0 ≤ w ∧ w ≤ 999) → K (.int (iN (-1)), 0) (zA M (sZ Z 1) A)) (hy : 0 ≤ x → x ≤ 999 → 0 ≤ w → w ≤ 999 → K (.int (iN (befF (C 0 13) w.toNat x 32 0 999)), 0) (zA M (sZ Z 0) A)) : CT l E d m_Mod_before [(.ref 24, 41), (.int (iN x), 0), (.int (iN w), 0)] (zA M Z A) K := by
  exact r_before hd (VB_fx hV) hR a1 a2 b1 b2 hn (fun q1 q2 q3 q4 => by rw [fx_c C (by decide)]; exact hy q1 q2 q3 q4)
theorem x_when {l : Launch} {E : EnvT} {d : Nat} {K : AV → Mem → Prop} {M : Mem} {C Z : Ch} {A : Nat → Int} {x k : Int} (hd : 3 ≤ d) (hV : VB C) (hR : RX C A 0) (a1 : -2147483648 ≤ x) (a2 : x < 2147483648) (b1 : -2147483648 ≤ k) (b2 : k < 2147483648) (hn : ¬ (0 ≤ x ∧ x ≤ 999 ∧ 0 ≤ k ∧ k ≤ 999) → K (.int (iN (-1)), 0) (zA M (sZ Z 1) A)) (hy : 0 ≤ x → x ≤ 999 → 0 ≤ k → k ≤ 999 → K (.int (iN (ansOr (whenF (C 0 13) k 1000 0 x) 6).1), 0) (zA M (sZ Z (ansOr (whenF (C 0 13) k 1000 0 x) 6).2) A)) : CT l E d m_Mod_when [(.ref 24, 41), (.int (iN x), 0), (.int (iN k), 0)] (zA M Z A) K := by
  exact r_when hd (VB_fx hV) hR a1 a2 b1 b2 hn (fun q1 q2 q3 q4 => by rw [fx_c C (by decide)]; exact hy q1 q2 q3 q4)
theorem x_heard {l : Launch} {E : EnvT} {d : Nat} {K : AV → Mem → Prop} {M : Mem} {C Z : Ch} {T : Mem} {A : Nat → Int} {a t : Int} (hd : 6 ≤ d) (hB : Z 0 21 = 0) (hV : VB C) (hR : RX C A 0) (hT : FT T) (hr : TR T Z) (a1 : -2147483648 ≤ a) (a2 : a < 2147483648) (p1 : -2147483648 ≤ t) (p2 : t < 2147483648) (hn : hS T C a t ≠ 0 → K (.int (iN (-1)), 0) (zA M (sZ Z (hS T C a t)) A)) (hy : hS T C a t = 0 → K (.int (iN (sumN (fun k => offC T C a.toNat t.toNat k + C 7 (6 * a.toNat + k)) (C 4 a.toNat).toNat)), 0) (zA M (sZ Z 0) A)) : CT l E d m_Mod_heard [(.ref 24, 41), (.int (iN a), 0), (.int (iN t), 0)] (zA M Z A) K := by
  by_cases h0 : C 0 8 = 0
  · exact r_heard hd hB (VB_fx hV) hR hT hr a1 a2 p1 p2 (fun _ => by rw [q_hS]; exact hn (by rw [hS0 h0]; decide)) (fun c => absurd c (by rw [hS0 (fx0 h0)]; decide))
  · exact r_heard hd hB hV ((RX_n h0).mp hR) hT hr a1 a2 p1 p2 hn hy
theorem x_transposed {l : Launch} {E : EnvT} {d : Nat} {K : AV → Mem → Prop} {M : Mem} {C Z : Ch} {T : Mem} {A : Nat → Int} {a t : Int} (hd : 6 ≤ d) (hB : Z 0 21 = 0) (hV : VB C) (hR : RX C A 0) (hT : FT T) (hr : TR T Z) (a1 : -2147483648 ≤ a) (a2 : a < 2147483648) (p1 : -2147483648 ≤ t) (p2 : t < 2147483648) (hL : ∀ s : Nat, (s : Int) < C 0 8 → 1 ≤ C 4 s) (hn : hS T C a t ≠ 0 → K (.int (iN (-1)), 0) (zA M (sZ Z (hS T C a t)) A)) (h6 : hS T C a t = 0 → trF (offC T C a.toNat t.toNat) ((C 4 a.toNat).toNat - 1) 1 = false → K (.int (iN (-1)), 0) (zA M (sZ Z 6) A)) (hy : hS T C a t = 0 → trF (offC T C a.toNat t.toNat) ((C 4 a.toNat).toNat - 1) 1 = true → K (.int (iN (offC T C a.toNat t.toNat 0)), 0) (zA M (sZ Z 0) A)) : CT l E d m_Mod_transposed [(.ref 24, 41), (.int (iN a), 0), (.int (iN t), 0)] (zA M Z A) K := by
  by_cases h0 : C 0 8 = 0
  · exact r_transposed hd hB (VB_fx hV) hR hT hr a1 a2 p1 p2 (fun s hs => absurd hs (by rw [fx0 h0]; omega)) (fun _ => by rw [q_hS]; exact hn (by rw [hS0 h0]; decide)) (fun c => absurd c (by rw [hS0 (fx0 h0)]; decide)) (fun c => absurd c (by rw [hS0 (fx0 h0)]; decide))
  · exact r_transposed hd hB hV ((RX_n h0).mp hR) hT hr a1 a2 p1 p2 hL hn h6 hy
theorem x_forged {l : Launch} {E : EnvT} {d : Nat} {K : AV → Mem → Prop} {M : Mem} {C Z : Ch} {T : Mem} {A : Nat → Int} {a t : Int} (hd : 6 ≤ d) (hB : Z 0 21 = 0) (hV : VB C) (hR : RX C A 0) (hT : FT T) (hr : TR T Z) (a1 : -2147483648 ≤ a) (a2 : a < 2147483648) (p1 : -2147483648 ≤ t) (p2 : t < 2147483648) (hn : hS T C a t ≠ 0 → K (.int (iN (-1)), 0) (zA M (sZ Z (hS T C a t)) A)) (h6 : hS T C a t = 0 → fgF (offC T C a.toNat t.toNat) (C 4 a.toNat).toNat 0 (-1) < 0 → K (.int (iN (-1)), 0) (zA M (sZ Z 6) A)) (hy : hS T C a t = 0 → 0 ≤ fgF (offC T C a.toNat t.toNat) (C 4 a.toNat).toNat 0 (-1) → K (.int (iN (fgF (offC T C a.toNat t.toNat) (C 4 a.toNat).toNat 0 (-1))), 0) (zA M (sZ Z 0) A)) : CT l E d m_Mod_forged [(.ref 24, 41), (.int (iN a), 0), (.int (iN t), 0)] (zA M Z A) K := by
  by_cases h0 : C 0 8 = 0
  · exact r_forged hd hB (VB_fx hV) hR hT hr a1 a2 p1 p2 (fun _ => by rw [q_hS]; exact hn (by rw [hS0 h0]; decide)) (fun c => absurd c (by rw [hS0 (fx0 h0)]; decide)) (fun c => absurd c (by rw [hS0 (fx0 h0)]; decide))
  · exact r_forged hd hB hV ((RX_n h0).mp hR) hT hr a1 a2 p1 p2 hn h6 hy
theorem x_copySung {l : Launch} {E : EnvT} {d : Nat} {K : AV → Mem → Prop} {M : Mem} {C Z : Ch} {T : Mem} {A : Nat → Int} {a t : Int} (hd : 5 ≤ d) (hB : Z 0 21 = 0) (hV : VB C) (hR : RX C A 0) (hT : FT T) (hr : TR T Z) (a1 : -2147483648 ≤ a) (a2 : a < 2147483648) (p1 : -2147483648 ≤ t) (p2 : t < 2147483648) (hn : lS T C a t ≠ 0 → K (.int (iN (-1)), 0) (zA M (sZ Z (lS T C a t)) A)) (hy : lS T C a t = 0 → ∀ Z', TR (setR T (20 + t.toNat) (cpC (T (20 + t.toNat)) 1 (fun k => (cutF (T (20 + t.toNat) 0 1) (lI (sungC C a.toNat k))).toInt) (C 4 a.toNat).toNat)) Z' → ZF Z Z' → K (.int (iN (C 4 a.toNat)), 0) (zA M (sZ Z' 0) A)) : CT l E d m_Mod_copySung [(.ref 24, 41), (.int (iN a), 0), (.int (iN t), 0)] (zA M Z A) K := by
  by_cases h0 : C 0 8 = 0
  · exact r_copySung hd hB (VB_fx hV) hR hT hr a1 a2 p1 p2 (fun _ => by rw [q_lS]; exact hn (by rw [lS0 h0]; decide)) (fun c => absurd c (by rw [lS0 (fx0 h0)]; decide))
  · exact r_copySung hd hB hV ((RX_n h0).mp hR) hT hr a1 a2 p1 p2 hn hy
theorem x_payings {l : Launch} {E : EnvT} {d : Nat} {K : AV → Mem → Prop} {M : Mem} {C Z T : Ch} {A : Nat → Int} {n : Nat} (hd : 10 ≤ d) (hB : Z 0 21 = 0) (hW : WX C) (hR : RX C A 0) (hn : C 0 8 = n) (hT : LK T C n) (h : ∀ Z', ZS Z Z' → K (.int (iN (popc (unM (T 1) n) - BP (T 1) n (unM (T 1) n))), 0) (zA M (sZ Z' 0) A)) : CT l E d m_Mod_payings [(.ref 24, 41)] (zA M Z A) K := by
  by_cases h0 : C 0 8 = 0
  · exact r_payings hd hB hW.2 hR (by rw [fx_8]; exact hn) (LK_fx h0 hn hT) h
  · exact r_payings hd hB (WX_n h0 hW) ((RX_n h0).mp hR) hn hT h
theorem x_parts {l : Launch} {E : EnvT} {d : Nat} {K : AV → Mem → Prop} {M : Mem} {C Z T : Ch} {A : Nat → Int} {n : Nat} (hd : 10 ≤ d) (hB : Z 0 21 = 0) (hW : WX C) (hR : RX C A 0) (hn : C 0 8 = n) (hT : LK T C n) (h : ∀ Z', ZS Z Z' → K (.int (iN (BP (T 1) n (unM (T 1) n))), 0) (zA M (sZ Z' 0) A)) : CT l E d m_Mod_parts [(.ref 24, 41)] (zA M Z A) K := by
  by_cases h0 : C 0 8 = 0
  · exact r_parts hd hB hW.2 hR (by rw [fx_8]; exact hn) (LK_fx h0 hn hT) h
  · exact r_parts hd hB (WX_n h0 hW) ((RX_n h0).mp hR) hn hT h
theorem x_ask {l : Launch} {E : EnvT} {d : Nat} {K : AV → Mem → Prop} {M : Mem} {C Z T : Ch} {A : Nat → Int} {n : Nat} (hd : 8 ≤ d) (hB : Z 0 21 = 0) (hV : VB C) (hR : RX C A 0) (hn : C 0 8 = n) (hT : LK T C n) (h : K (.int (iN (popc (laF (T 3) n (2 ^ n - 1) (2 ^ n - 1)))), 0) (zA M (sZ Z 0) A)) : CT l E d m_Mod_ask [(.ref 24, 41)] (zA M Z A) K := by
  by_cases h0 : C 0 8 = 0
  · exact r_ask hd hB (VB_fx hV) hR (by rw [fx_8]; exact hn) (LK_fx h0 hn hT) h
  · exact r_ask hd hB hV ((RX_n h0).mp hR) hn hT h
theorem x_askSet {l : Launch} {E : EnvT} {d : Nat} {K : AV → Mem → Prop} {M : Mem} {C Z T : Ch} {A : Nat → Int} {n : Nat} (hd : 8 ≤ d) (hB : Z 0 21 = 0) (hV : VB C) (hR : RX C A 0) (hn : C 0 8 = n) (hT : LK T C n) (h : K (.int (iN (laF (T 3) n (2 ^ n - 1) (2 ^ n - 1) : Nat)), 0) (zA M (sZ Z 0) A)) : CT l E d m_Mod_askSet [(.ref 24, 41)] (zA M Z A) K := by
  by_cases h0 : C 0 8 = 0
  · exact r_askSet hd hB (VB_fx hV) hR (by rw [fx_8]; exact hn) (LK_fx h0 hn hT) h
  · exact r_askSet hd hB hV ((RX_n h0).mp hR) hn hT h
theorem x_round {l : Launch} {E : EnvT} {d : Nat} {K : AV → Mem → Prop} {M : Mem} {C Z T : Ch} {A : Nat → Int} {n : Nat} (hd : 8 ≤ d) (hB : Z 0 21 = 0) (hV : VB C) (hR : RX C A 0) (hn : C 0 8 = n) (hT : LK T C n) (h : ∀ Z', ZS Z Z' → K (.int (iN (if (frL (T 2) n 3 (n - 2) (T 4)).1 = 0 then -1 else (frL (T 2) n 3 (n - 2) (T 4)).1)), 0) (zA M (sZ Z' (if (frL (T 2) n 3 (n - 2) (T 4)).1 = 0 then 6 else 0)) A)) : CT l E d m_Mod_round [(.ref 24, 41)] (zA M Z A) K := by
  by_cases h0 : C 0 8 = 0
  · exact r_round hd hB (VB_fx hV) hR (by rw [fx_8]; exact hn) (LK_fx h0 hn hT) h
  · exact r_round hd hB hV ((RX_n h0).mp hR) hn hT h
theorem x_roundAt {l : Launch} {E : EnvT} {d : Nat} {K : AV → Mem → Prop} {M : Mem} {C Z T : Ch} {A : Nat → Int} {n : Nat} {x : Int} (hd : 8 ≤ d) (hB : Z 0 21 = 0) (hV : VB C) (hR : RX C A 0) (hn : C 0 8 = n) (hT : LK T C n) (x1 : -2147483648 ≤ x) (x2 : x < 2147483648) (h1 : x < 0 → K (.int (iN (-1)), 0) (zA M (sZ Z 1) A)) (h6 : 0 ≤ x → (frL (T 2) n 3 (n - 2) (T 4)).1 ≤ x → ∀ Z', ZS Z Z' → K (.int (iN (-1)), 0) (zA M (sZ Z' 6) A)) (hy : 0 ≤ x → x < (frL (T 2) n 3 (n - 2) (T 4)).1 → ∀ Z', ZS Z Z' → K (.int (iN ((frL (T 2) n 3 (n - 2) (T 4)).2 x.toNat)), 0) (zA M (sZ Z' 0) A)) : CT l E d m_Mod_roundAt [(.ref 24, 41), (.int (iN x), 0)] (zA M Z A) K := by
  by_cases h0 : C 0 8 = 0
  · exact r_roundAt hd hB (VB_fx hV) hR (by rw [fx_8]; exact hn) (LK_fx h0 hn hT) x1 x2 h1 h6 hy
  · exact r_roundAt hd hB hV ((RX_n h0).mp hR) hn hT x1 x2 h1 h6 hy
theorem x_chain {l : Launch} {E : EnvT} {d : Nat} {K : AV → Mem → Prop} {M : Mem} {C Z T : Ch} {A : Nat → Int} {n : Nat} (hd : 6 ≤ d) (hB : Z 0 21 = 0) (hW : WX C) (hR : RX C A 0) (hn : C 0 8 = n) (hT : LK T C n) (h : ∀ Z', ZS Z Z' → K (.int (iN (rowC (T 2) n (livM C n))), 0) (zA M (sZ Z' 0) A)) : CT l E d m_Mod_chain [(.ref 24, 41)] (zA M Z A) K := by
  by_cases h0 : C 0 8 = 0
  · exact r_chain hd hB hW.2 hR (by rw [fx_8]; exact hn) (LK_fx h0 hn hT) (fun Z' z => by rw [q_liv]; exact h Z' z)
  · exact r_chain hd hB (WX_n h0 hW) ((RX_n h0).mp hR) hn hT h
theorem x_behind {l : Launch} {E : EnvT} {d : Nat} {K : AV → Mem → Prop} {M : Mem} {C Z : Ch} {A : Nat → Int} {n : Nat} {a : Int} (hd : 6 ≤ d) (hB : Z 0 21 = 0) (hV : VB C) (hR : RX C A 0) (hn : C 0 8 = n) (a1 : -2147483648 ≤ a) (a2 : a < 2147483648) (h1 : livesB C a = false → K (.int (iN (-1)), 0) (zA M (sZ Z 1) A)) {T : Ch} (hT : LK T C n) (hy : livesB C a = true → K (.int (iN (clrN (rchT (T 2) n n (2 ^ a.toNat)) a.toNat : Nat)), 0) (zA M (sZ Z 0) A)) : CT l E d m_Mod_behind [(.ref 24, 41), (.int (iN a), 0)] (zA M Z A) K := by
  by_cases h0 : C 0 8 = 0
  · exact r_behind hd hB (VB_fx hV) hR (by rw [fx_8]; exact hn) a1 a2 (fun _ => h1 (lives0 h0)) (LK_fx h0 hn hT) (fun c => by rw [lives0 (fx0 h0)] at c; cases c)
  · exact r_behind hd hB hV ((RX_n h0).mp hR) hn a1 a2 h1 hT hy
theorem x_lend {l : Launch} {E : EnvT} {d : Nat} {K : AV → Mem → Prop} {M : Mem} {C Z : Ch} {A : Nat → Int} {a b n : Int} (hd : 7 ≤ d) (hB : Z 0 21 = 0) (hW : WX C) (hR : RX C A 0) (a1 : -2147483648 ≤ a) (a2 : a < 2147483648) (b1 : -2147483648 ≤ b) (b2 : b < 2147483648) (n1 : -2147483648 ≤ n) (n2 : n < 2147483648) (h : ∀ A', RX (lendQ C a b n).2 A' 0 → FrA 0 A A' → K (.int (iN (lendQ C a b n).1.1), 0) (zA M (sZ Z (lendQ C a b n).1.2) A')) : CT l E d m_Mod_lend [(.ref 24, 41), (.int (iN a), 0), (.int (iN b), 0), (.int (iN n), 0)] (zA M Z A) K := by
  exact r_lend hd hB hW.2 hR a1 a2 b1 b2 n1 n2 (fun A' rr fa => by rw [q_lend] at rr ⊢; exact h A' rr fa)
theorem x_pay {l : Launch} {E : EnvT} {d : Nat} {K : AV → Mem → Prop} {M : Mem} {C Z : Ch} {A : Nat → Int} {a b n : Int} (hd : 7 ≤ d) (hB : Z 0 21 = 0) (hW : WX C) (hR : RX C A 0) (a1 : -2147483648 ≤ a) (a2 : a < 2147483648) (b1 : -2147483648 ≤ b) (b2 : b < 2147483648) (n1 : -2147483648 ≤ n) (n2 : n < 2147483648) (h : ∀ A', RX (payQ C a b n).2 A' 0 → FrA 0 A A' → K (.int (iN (payQ C a b n).1.1), 0) (zA M (sZ Z (payQ C a b n).1.2) A')) : CT l E d m_Mod_pay [(.ref 24, 41), (.int (iN a), 0), (.int (iN b), 0), (.int (iN n), 0)] (zA M Z A) K := by
  exact r_pay hd hB hW.2 hR a1 a2 b1 b2 n1 n2 (fun A' rr fa => by rw [q_pay] at rr ⊢; exact h A' rr fa)
theorem x_chord {l : Launch} {E : EnvT} {d : Nat} {K : AV → Mem → Prop} {M : Mem} {C Z : Ch} {A : Nat → Int} {a b : Int} (hd : 7 ≤ d) (hB : Z 0 21 = 0) (hW : WX C) (hR : RX C A 0) (a1 : -2147483648 ≤ a) (a2 : a < 2147483648) (b1 : -2147483648 ≤ b) (b2 : b < 2147483648) (h : ∀ A', RX (chordQ C a b).2 A' 0 → FrA 0 A A' → K (.int (iN (chordQ C a b).1.1), 0) (zA M (sZ Z (chordQ C a b).1.2) A')) : CT l E d m_Mod_chord [(.ref 24, 41), (.int (iN a), 0), (.int (iN b), 0)] (zA M Z A) K := by
  exact r_chord hd hB hW.2 hR a1 a2 b1 b2 (fun A' rr fa => by rw [q_chord] at rr ⊢; exact h A' rr fa)
theorem x_sunday {l : Launch} {E : EnvT} {d : Nat} {K : AV → Mem → Prop} {M : Mem} {C Z : Ch} {A : Nat → Int} (hd : 8 ≤ d) (hB : Z 0 21 = 0) (hW : WX C) (hR : RX C A 0) (h : ∀ A', RX (sunQ C).2 A' 0 → FrA 0 A A' → K (.int (iN (sunQ C).1.1), 0) (zA M (sZ Z (sunQ C).1.2) A')) : CT l E d m_Mod_sunday [(.ref 24, 41)] (zA M Z A) K := by
  exact r_sunday hd hB hW.2 hR (fun A' rr fa => by rw [q_sun] at rr ⊢; exact h A' rr fa)
theorem x_cold {l : Launch} {E : EnvT} {d : Nat} {K : AV → Mem → Prop} {M : Mem} {C Z : Ch} {A : Nat → Int} {a : Int} (hd : 8 ≤ d) (hB : Z 0 21 = 0) (hW : WX C) (hR : RX C A 0) (a1 : -2147483648 ≤ a) (a2 : a < 2147483648) (h : ∀ A', RX (coldQ C a).2 A' 0 → FrA 0 A A' → K (.int (iN (coldQ C a).1.1), 0) (zA M (sZ Z (coldQ C a).1.2) A')) : CT l E d m_Mod_cold [(.ref 24, 41), (.int (iN a), 0)] (zA M Z A) K := by
  exact r_cold hd hB hW.2 hR a1 a2 (fun A' rr fa => by rw [q_cold] at rr ⊢; exact h A' rr fa)
theorem x_die {l : Launch} {E : EnvT} {d : Nat} {K : AV → Mem → Prop} {M : Mem} {C Z : Ch} {A : Nat → Int} {a : Int} (hd : 8 ≤ d) (hB : Z 0 21 = 0) (hW : WX C) (hR : RX C A 0) (a1 : -2147483648 ≤ a) (a2 : a < 2147483648) (h : ∀ A', RX (dieQ C a).2 A' 0 → FrA 0 A A' → K (.int (iN (dieQ C a).1.1), 0) (zA M (sZ Z (dieQ C a).1.2) A')) : CT l E d m_Mod_die [(.ref 24, 41), (.int (iN a), 0)] (zA M Z A) K := by
  exact r_die hd hB hW.2 hR a1 a2 (fun A' rr fa => by rw [q_die] at rr ⊢; exact h A' rr fa)
theorem x_hum {l : Launch} {E : EnvT} {d : Nat} {K : AV → Mem → Prop} {M : Mem} {C Z : Ch} {A : Nat → Int} {z : Int} (hd : 2 ≤ d) (hV : VB C) (hR : RX C A 0) (z1 : -2147483648 ≤ z) (z2 : z < 2147483648) (h : ∀ A', RX (humQ C z).2 A' 0 → FrA 0 A A' → K (.int (iN (b2i (humQ C z).1.1)), 0) (zA M (sZ Z (humQ C z).1.2) A')) : CT l E d m_Mod_hum [(.ref 24, 41), (.int (iN z), 0)] (zA M Z A) K := by
  exact r_hum hd (VB_fx hV) hR z1 z2 (fun A' rr fa => by rw [q_hum] at rr ⊢; exact h A' rr fa)
theorem x_chords {l : Launch} {E : EnvT} {d : Nat} {K : AV → Mem → Prop} {M : Mem} {C Z : Ch} {A : Nat → Int} (hd : 7 ≤ d) (hB : Z 0 21 = 0) (hW : WX C) (hR : RX C A 0) (h : ∀ A', RX (netAllC C).2 A' 0 → FrA 0 A A' → K (.int (iN (netAllC C).1), 0) (zA M (sZ Z 0) A')) : CT l E d m_Mod_chords [(.ref 24, 41)] (zA M Z A) K := by
  exact r_chords hd hB hW.2 hR (fun A' rr fa => by rw [q_all] at rr ⊢; exact h A' rr fa)
theorem x_well {l : Launch} {E : EnvT} {d : Nat} {K : AV → Mem → Prop} {M : Mem} {C Z : Ch} {A : Nat → Int} {a : Int} (hd : 5 ≤ d) (hB : Z 0 21 = 0) (hW : WX C) (hR : RX C A 0) (a1 : -2147483648 ≤ a) (a2 : a < 2147483648) (hn : livesB C a = false → K (.int (iN (-1)), 0) (zA M (sZ Z 1) A)) (h7 : livesB C a = true → inS (C 0 11) a.toNat = false → K (.int (iN (-1)), 0) (zA M (sZ Z 7) A)) (hy : livesB C a = true → inS (C 0 11) a.toNat = true → ∀ A', RX (upd2 C 0 11 (clrB (C 0 11) a.toNat)) A' 0 → FrA 0 A A' → K (.int (iN (popc (clrB (C 0 11) a.toNat).toNat)), 0) (zA M (sZ Z 0) A')) : CT l E d m_Mod_well [(.ref 24, 41), (.int (iN a), 0)] (zA M Z A) K := by
  by_cases h0 : C 0 8 = 0
  · exact r_well hd hB hW.2 hR a1 a2 (fun _ => hn (lives0 h0)) (fun c => by rw [lives0 (fx0 h0)] at c; cases c) (fun c => by rw [lives0 (fx0 h0)] at c; cases c)
  · exact r_well hd hB (WX_n h0 hW) ((RX_n h0).mp hR) a1 a2 hn h7 (fun c c2 A' rr fa => hy c c2 A' ((RX_n (by rw [upd2_k _ _ (by decide)]; exact h0)).mpr rr) fa)
theorem x_earn {l : Launch} {E : EnvT} {d : Nat} {K : AV → Mem → Prop} {M : Mem} {C Z : Ch} {A : Nat → Int} {a b : Int} (hd : 5 ≤ d) (hB : Z 0 21 = 0) (hV : VB C) (hR : RX C A 0) (a1 : -2147483648 ≤ a) (a2 : a < 2147483648) (b1 : -2147483648 ≤ b) (b2 : b < 2147483648) (hn : ¬ (livesB C a = true ∧ 1 ≤ b ∧ b ≤ 999) → K (.int (iN (-1)), 0) (zA M (sZ Z 1) A)) (h7 : livesB C a = true → 1 ≤ b → b ≤ 999 → 9999 < C 2 a.toNat + b → K (.int (iN (-1)), 0) (zA M (sZ Z 7) A)) (hy : livesB C a = true → 1 ≤ b → b ≤ 999 → C 2 a.toNat + b ≤ 9999 → ∀ A', RX (upd2 C 2 a.toNat (C 2 a.toNat + b)) A' 0 → FrA 0 A A' → K (.int (iN (C 2 a.toNat + b)), 0) (zA M (sZ Z 0) A')) : CT l E d m_Mod_earn [(.ref 24, 41), (.int (iN a), 0), (.int (iN b), 0)] (zA M Z A) K := by
  by_cases h0 : C 0 8 = 0
  · exact r_earn hd hB (VB_fx hV) hR a1 a2 b1 b2 (fun _ => hn (fun q => by rw [lives0 h0] at q; cases q.1)) (fun c => by rw [lives0 (fx0 h0)] at c; cases c) (fun c => by rw [lives0 (fx0 h0)] at c; cases c)
  · exact r_earn hd hB hV ((RX_n h0).mp hR) a1 a2 b1 b2 hn h7 (fun c c2 c3 c4 A' rr fa => hy c c2 c3 c4 A' ((RX_n (by rw [upd2_c _ _ (by decide)]; exact h0)).mpr rr) fa)
theorem x_name {l : Launch} {E : EnvT} {d : Nat} {K : AV → Mem → Prop} {M : Mem} {C Z : Ch} {A : Nat → Int} {a b : Int} (hd : 6 ≤ d) (hB : Z 0 21 = 0) (hV : VB C) (hR : RX C A 0) (a1 : -2147483648 ≤ a) (a2 : a < 2147483648) (b1 : -2147483648 ≤ b) (b2 : b < 2147483648) (hn : ¬ (livesB C a = true ∧ a ≠ b ∧ (b = -1 ∨ livesB C b = true)) → K (.int (iN 0), 0) (zA M (sZ Z 1) A)) (hy : livesB C a = true → a ≠ b → (b = -1 ∨ livesB C b = true) → ∀ A', RX (upd2 C 3 a.toNat b) A' 0 → FrA 0 A A' → K (.int (iN 1), 0) (zA M (sZ Z 0) A')) : CT l E d m_Mod_name [(.ref 24, 41), (.int (iN a), 0), (.int (iN b), 0)] (zA M Z A) K := by
  by_cases h0 : C 0 8 = 0
  · exact r_name hd hB (VB_fx hV) hR a1 a2 b1 b2 (fun _ => hn (fun q => by rw [lives0 h0] at q; cases q.1)) (fun c => by rw [lives0 (fx0 h0)] at c; cases c)
  · exact r_name hd hB hV ((RX_n h0).mp hR) a1 a2 b1 b2 hn (fun c c2 c3 A' rr fa => hy c c2 c3 A' ((RX_n (by rw [upd2_c _ _ (by decide)]; exact h0)).mpr rr) fa)
theorem x_clear {l : Launch} {E : EnvT} {d : Nat} {K : AV → Mem → Prop} {M : Mem} {C Z T : Ch} {A : Nat → Int} {n : Nat} (hd : 8 ≤ d) (hB : Z 0 21 = 0) (hW : WX C) (hR : RX C A 0) (hn : C 0 8 = n) (hT : LK T C n) (h7 : (frL (T 2) n 3 (n - 2) (T 4)).1 = 0 → ∀ Z', ZS Z Z' → K (.int (iN (-1)), 0) (zA M (sZ Z' 7) A)) (hy : ∀ len : Nat, (frL (T 2) n 3 (n - 2) (T 4)).1 = len → 1 ≤ len → ∀ Z' A', ZS Z Z' → RX (settleC (ringOff (frL (T 2) n 3 (n - 2) (T 4)).2 len (ringMin C (frL (T 2) n 3 (n - 2) (T 4)).2 len len) len 0 C)) A' 0 → FrA 0 A A' → K (.int (iN (ringMin C (frL (T 2) n 3 (n - 2) (T 4)).2 len len)), 0) (zA M (sZ Z' 0) A')) : CT l E d m_Mod_clear [(.ref 24, 41)] (zA M Z A) K := by
  by_cases h0 : C 0 8 = 0
  · exact r_clear hd hB hW.2 hR (by rw [fx_8]; exact hn) (LK_fx h0 hn hT) h7 (fun len c c2 => absurd c (by rw [frL_0 h0 hn]; omega))
  · exact r_clear hd hB (WX_n h0 hW) ((RX_n h0).mp hR) hn hT h7 (fun len c c2 Z' A' z rr fa => hy len c c2 Z' A' z ((RX_n (by rw [settleC_c (by decide), ringO_c _ _ _ (by decide) (by decide)]; exact h0)).mpr rr) fa)
theorem x_bass {l : Launch} {E : EnvT} {d : Nat} {K : AV → Mem → Prop} {M : Mem} {C Z : Ch} {A : Nat → Int} (hd : 8 ≤ d) (hB : Z 0 21 = 0) (hW : WX C) (hR : RX C A 0) (hn : allOwC C 0 = 0 → K (.int (iN 0), 0) (zA M (sZ Z 6) A)) (hy : allOwC C 0 ≠ 0 → K (.int (iN 1), 0) (zA M (sZ (tfZ Z (bassC C (C 0 8).toNat).toNat (allOwC C 0).toNat) 0) A)) : CT l E d m_Mod_bass [(.ref 24, 41)] (zA M Z A) K := by
  exact r_bass hd hB hW.2 hR (fun w => hn (by rw [q_allOw] at w; exact w)) (fun w => by rw [q_allOw] at w ⊢; rw [q_bass, fx_8]; exact hy w)
