/-- nobody of the LINES that p names holds as s -/
def noH (C : Ch) (s : Nat) (p : Nat → Prop) : Prop := ∀ j, j < 48 → p (j / 6) → C 6 j ≠ s
def noW (C : Ch) (s : Nat) (p : Nat → Prop) : Prop := ∀ k : Nat, (k : Int) < C 8 3 → p k → C 9 k ≠ s
def noB (C : Ch) (s : Nat) (p : Nat → Prop) : Prop := ∀ k : Nat, (k : Int) < C 8 3 → p k → C 10 k ≠ s
theorem oweC_6 {C : Ch} (hV : VB C) {a : Int} {b : Nat} {n : Int} (hb : b < 8) {s : Nat} (ha : a ≠ s) {j : Nat} (h : C 6 j ≠ s) : (oweC C a b n).2 6 j ≠ s := by
  unfold oweC
  split
  · split
    · dsimp only; rw [upd2_c _ _ (by decide)]; exact h
    · exact h
  · split
    · split
      · dsimp only; rw [upd2_c _ _ (by decide)]; exact h
      · exact h
    · split
      · split
        · show joinC C a b n 6 j ≠ s; rw [joinC_c (by omega)]; exact h
        · exact h
      · dsimp only
        rw [upd2_c _ _ (by decide), upd2_at]
        split
        · exact ha
        · exact h
theorem oweC_w {C : Ch} {a : Int} {b : Nat} {n : Int} : (oweC C a b n).2 8 3 = C 8 3 ∨ ((oweC C a b n).2 8 3 = C 8 3 + 1 ∧ (oweC C a b n).2 9 = joinC C a b n 9) := by
  unfold oweC
  split
  · split
    · exact Or.inl (by dsimp only; rw [upd2_c _ _ (by decide)])
    · exact Or.inl rfl
  · split
    · split
      · exact Or.inl (by dsimp only; rw [upd2_c _ _ (by decide)])
      · exact Or.inl rfl
    · split
      · split
        · exact Or.inr ⟨joinC_8 C a b n, rfl⟩
        · exact Or.inl rfl
      · exact Or.inl (by dsimp only; rw [upd2_c _ _ (by decide), upd2_c _ _ (by decide)])
theorem oweC_9 {C : Ch} {a : Int} {b : Nat} {n : Int} (k : Nat) (hk : (k : Int) < C 8 3) (h0 : 0 ≤ C 8 3) : (oweC C a b n).2 9 k = C 9 k := by
  unfold oweC
  split
  · split
    · dsimp only; rw [upd2_c _ _ (by decide)]
    · rfl
  · split
    · split
      · dsimp only; rw [upd2_c _ _ (by decide)]
      · rfl
    · split
      · split
        · show joinC C a b n 9 k = _; rw [joinC_9, if_neg (by omega)]
        · rfl
      · dsimp only; rw [upd2_c _ _ (by decide), upd2_c _ _ (by decide)]
/-- what an heir must be -/
def HR (C : Ch) (s : Nat) (heir : Int) : Prop := heir = -1 ∨ (0 ≤ heir ∧ heir < C 0 8 ∧ heir ≠ s ∧ alv C heir.toNat)
theorem WC_inh {C : Ch} {s : Nat} {heir : Int} {b : Nat} {n : Int} (h : WC C) (hh : HR C s heir) (b1 : (b : Int) < C 0 8) (lb : alv C b) (n1 : 1 ≤ n) (n2 : n ≤ 999) : WC (inhC C heir b n) := by
  unfold inhC
  split
  · exact h
  · rename_i c
    rcases hh with e | ⟨e0, e1, e2, e3⟩
    · exact absurd (Or.inl e) c
    · exact WC_owe h e0 e1 b1 (fun q => c (Or.inr q)) e3 lb n1 n2
theorem inh_0 {C : Ch} {heir : Int} {b : Nat} {n : Int} : inhC C heir b n 0 = C 0 := by
  unfold inhC
  split
  · rfl
  · exact oweC_c (by omega)
theorem inh_6 {C : Ch} (hV : VB C) {s : Nat} {heir : Int} {b : Nat} {n : Int} (hb : b < 8) (hs : heir ≠ s) {j : Nat} (h : C 6 j ≠ s) : inhC C heir b n 6 j ≠ s := by
  unfold inhC
  split
  · exact h
  · exact oweC_6 hV hb hs h
theorem HR.c {C D : Ch} {s : Nat} {heir : Int} (h : HR C s heir) (e : D 0 = C 0) : HR D s heir := by
  unfold HR alv
  rw [e]
  exact h
theorem HR.ne {C : Ch} {s : Nat} {heir : Int} (h : HR C s heir) : heir ≠ s := by
  rcases h with e | e
  · omega
  · exact e.2.2.1
theorem take0_6 {C : Ch} {i j : Nat} {s : Nat} (h : C 6 j ≠ s) : takeOffC C i (C 7 i) 6 j ≠ s := by
  unfold takeOffC
  rw [if_pos (by omega), upd2_at]
  split
  · omega
  · rw [upd2_c _ _ (by decide)]; exact h
theorem take0_i {C : Ch} {i : Nat} : takeOffC C i (C 7 i) 6 i = -1 := by
  unfold takeOffC
  rw [if_pos (by omega), upd2_same]
theorem WC_passF {s : Nat} {heir : Int} : ∀ (m b : Nat) {C : Ch}, b + m ≤ 8 → WC C → HR C s heir → noH C s (fun x => x < b) → WC (passF s heir m b C) ∧ passF s heir m b C 0 = C 0 ∧ noH (passF s heir m b C) s (fun x => x < b + m)
  | 0, b, C, _, h, _, hb => ⟨h, rfl, hb⟩
  | m + 1, b, C, hm, h, hh, hb => by
    have hV := h.1
    unfold passF
    by_cases c : slotOfC C s b = -1
    · rw [if_pos c]
      have q := WC_passF m (b + 1) (by omega) h hh (fun j hj hl => by
        by_cases e : j / 6 = b
        · exact noLine h (by omega) (by omega) c j hj e
        · exact hb j hj (by omega))
      exact ⟨q.1, q.2.1, fun j hj hl => q.2.2 j hj (by omega)⟩
    · rw [if_neg c]
      obtain ⟨i, e, i1, i2, i3, i4, i5⟩ := slotE hV (b := b) (by omega) (by omega) c
      rw [e, show ((i : Int)).toNat = i from rfl]
      have w2 := h.2.2.1 i i2 i4
      rw [i1] at w2
      have d := hV.de i i2
      have d1 : C 7 i ≠ 0 := fun q => i4 ((h.2.1 i i2).mpr q)
      have t := WC_take0 h i2
      have t0 : takeOffC C i (C 7 i) 0 = C 0 := takeOffC_c (by decide) (by decide)
      have w := WC_inh (s := s) (heir := heir) (b := b) (n := C 7 i) t (hh.c t0) (by rw [t0]; exact w2.1) (by unfold alv; rw [t0]; exact w2.2.2.2.2.2) (by omega) (by omega)
      have z0 : inhC (takeOffC C i (C 7 i)) heir b (C 7 i) 0 = C 0 := by rw [inh_0, t0]
      have q := WC_passF m (b + 1) (by omega) w (hh.c z0) (fun j hj hl => by
        refine inh_6 t.1 (by omega) hh.ne ?_
        by_cases e : j / 6 = b
        · by_cases ej : j = i
          · subst ej; rw [take0_i]; omega
          · refine take0_6 (fun q => ?_)
            have := h.2.2.2.1 j i hj i2 ej (by omega) (by rw [q, i3])
            omega
        · exact take0_6 (hb j hj (by omega)))
      exact ⟨q.1, by rw [q.2.1, z0], fun j hj hl => q.2.2 j hj (by omega)⟩
theorem WC_passW {s : Nat} {heir : Int} : ∀ (f k : Nat) {C : Ch}, WC C → HR C s heir → noH C s (fun _ => True) → noW C s (fun j => j < k ∨ k + f ≤ j) → WC (passW s heir f k C) ∧ passW s heir f k C 0 = C 0 ∧ noH (passW s heir f k C) s (fun _ => True) ∧ noW (passW s heir f k C) s (fun _ => True)
  | 0, k, C, h, _, hH, hW => ⟨h, rfl, hH, fun j hj _ => hW j hj (by omega)⟩
  | f + 1, k, C, h, hh, hH, hW => by
    have hV := h.1
    have hs := hV.w
    unfold passW
    by_cases ck : (k : Int) < C 8 3
    · rw [if_pos ck]
      by_cases c : C 9 k = s
      · rw [if_pos c]
        have w4 := h.2.2.2.2.1 k ck
        have wb := hV.wb k (by omega)
        have wm := hV.wm k (by omega)
        have t := WC_leave h ck
        have t0 : leaveC C k 0 = C 0 := leaveC_c (by omega)
        have t6 : leaveC C k 6 = C 6 := leaveC_c (by omega)
        have w := WC_inh (s := s) (heir := heir) (b := (C 10 k).toNat) (n := C 11 k) t (hh.c t0) (by rw [t0]; have := w4.2.1; omega) (by unfold alv; rw [t0]; exact w4.2.2.2.2.2) w4.2.2.2.1 wm.2
        have z0 : inhC (leaveC C k) heir (C 10 k).toNat (C 11 k) 0 = C 0 := by rw [inh_0, t0]
        have q := WC_passW f k w (hh.c z0) (fun j hj _ => inh_6 t.1 (by omega) hh.ne (by rw [t6]; exact hH j hj trivial)) (fun j hj hl => by
          have base : ∀ j : Nat, (j : Int) < leaveC C k 8 3 → j < k ∨ k + f ≤ j → leaveC C k 9 j ≠ s := by
            intro j hj hl
            rw [leaveC_8] at hj
            rw [leaveC_at C k (Or.inl rfl) j hj]
            split
            · exact hW (j + 1) (by omega) (by omega)
            · exact hW j (by omega) (by omega)
          unfold inhC at hj ⊢
          split
          · rename_i c2
            rw [if_pos c2] at hj
            exact base j hj hl
          · rename_i c2
            rw [if_neg c2] at hj
            have l0 : 0 ≤ leaveC C k 8 3 := by rw [leaveC_8]; omega
            by_cases e : (j : Int) < leaveC C k 8 3
            · rw [oweC_9 j e l0]
              exact base j e hl
            · rcases oweC_w (C := leaveC C k) (a := heir) (b := (C 10 k).toNat) (n := C 11 k) with q | q
              · rw [q] at hj; exact absurd hj e
              · rw [q.2, joinC_9, if_pos (by rw [q.1] at hj; omega)]
                exact hh.ne)
        exact ⟨q.1, by rw [q.2.1, z0], q.2.2.1, q.2.2.2⟩
      · rw [if_neg c]
        exact WC_passW f (k + 1) h hh hH (fun j hj hl => by
          by_cases e : j = k
          · subst e; exact c
          · exact hW j hj (by omega))
    · rw [if_neg ck]
      exact ⟨h, rfl, hH, fun j hj _ => hW j hj (by omega)⟩
theorem WC_forgL {s : Nat} : ∀ (m k : Nat) {C : Ch}, s < 8 → k + m ≤ 6 → WC C → noH C s (fun _ => True) → (∀ j, j < 48 → j / 6 = s → j % 6 < k → C 6 j = -1) → WC (forgL s m k C) ∧ (∀ c, c ≠ 6 → c ≠ 7 → forgL s m k C c = C c) ∧ noH (forgL s m k C) s (fun _ => True) ∧ (∀ j, j < 48 → j / 6 = s → j % 6 < k + m → forgL s m k C 6 j = -1)
  | 0, k, C, _, _, h, hH, hk => ⟨h, fun _ _ _ => rfl, hH, hk⟩
  | m + 1, k, C, hs, hm, h, hH, hk => by
    unfold forgL
    have t := WC_take0 (i := 6 * s + k) h (by omega)
    have q := WC_forgL m (k + 1) hs (by omega) t (fun j hj _ => take0_6 (hH j hj trivial)) (fun j hj hl hr => by
      by_cases e : j = 6 * s + k
      · subst e; exact take0_i
      · unfold takeOffC
        rw [if_pos (by omega), upd2_k _ _ e, upd2_c _ _ (by decide)]
        exact hk j hj hl (by omega))
    exact ⟨q.1, fun c c6 c7 => by rw [q.2.1 c c6 c7, takeOffC_c c6 c7], q.2.2.1, fun j hj hl hr => q.2.2.2 j hj hl (by omega)⟩
theorem WC_forgW {s : Nat} : ∀ (f k : Nat) {C : Ch}, WC C → noW C s (fun _ => True) → noB C s (fun j => j < k ∨ k + f ≤ j) → WC (forgW s f k C) ∧ (∀ c, c ≠ 8 ∧ c ≠ 9 ∧ c ≠ 10 ∧ c ≠ 11 → forgW s f k C c = C c) ∧ noW (forgW s f k C) s (fun _ => True) ∧ noB (forgW s f k C) s (fun _ => True)
  | 0, k, C, h, hW, hB => ⟨h, fun _ _ => rfl, hW, fun j hj _ => hB j hj (by omega)⟩
  | f + 1, k, C, h, hW, hB => by
    unfold forgW
    by_cases ck : (k : Int) < C 8 3
    · rw [if_pos ck]
      by_cases c : C 10 k = s
      · rw [if_pos c]
        have q := WC_forgW f k (WC_leave h ck) (fun j hj _ => by
          rw [leaveC_8] at hj
          rw [leaveC_at C k (Or.inl rfl) j hj]
          exact hW _ (by split <;> omega) trivial) (fun j hj hl => by
          rw [leaveC_8] at hj
          rw [leaveC_at C k (Or.inr (Or.inl rfl)) j hj]
          split
          · exact hB (j + 1) (by omega) (by omega)
          · exact hB j (by omega) (by omega))
        exact ⟨q.1, fun c hc => by rw [q.2.1 c hc, leaveC_c hc], q.2.2.1, q.2.2.2⟩
      · rw [if_neg c]
        exact WC_forgW f (k + 1) h hW (fun j hj hl => by
          by_cases e : j = k
          · subst e; exact c
          · exact hB j hj (by omega))
    · rw [if_neg ck]
      exact ⟨h, fun _ _ => rfl, hW, fun j hj _ => hB j hj (by omega)⟩
theorem WC_bury0 {C : Ch} {s : Nat} (h : WC C) (hs : s < 8) : WC (buryC0 C s) ∧ buryC0 C s 0 = C 0 ∧ buryC0 C s 2 s = 0 := by
  have hV := h.1
  have hn := hV.n
  unfold buryC0
  refine ⟨?_, ?_, upd2_same _ _ _ _⟩
  · split
    · exact WC_2 h (by omega) (by omega) (fun _ _ => rfl)
    · rename_i c
      have lv : livesB C (C 3 s) = true := by
        unfold heirC at c
        split at c
        · assumption
        · exact absurd rfl c
      have eh : heirC C s = C 3 s := by unfold heirC; rw [if_pos lv]
      obtain ⟨t, la⟩ := livesB_alv lv
      have p1 := hV.pu (C 3 s).toNat (by omega)
      rw [eh]
      refine WC_2 (WC_2 h ?_ (by omega) (fun q => by unfold alv at la; rw [la] at q; cases q)) (by omega) (by omega) (fun _ _ => rfl)
      have := hV.pu s hs
      omega
  · rw [upd2_c _ _ (by decide)]
    split
    · rfl
    · rw [upd2_c _ _ (by decide)]
theorem HR_heir {C : Ch} {s : Nat} (h : WC C) (hs : (s : Int) < C 0 8) : HR C s (heirC C s) := by
  unfold heirC
  split
  · rename_i lv
    obtain ⟨t, la⟩ := livesB_alv lv
    exact Or.inr ⟨t.1, t.2, (h.2.2.2.2.2.2.2.2.2.1 s hs).2, la⟩
  · exact Or.inl rfl
theorem WC_bury1 {C : Ch} {s : Nat} (h : WC C) (hs : (s : Int) < C 0 8) : WC (buryC1 C s) ∧ buryC1 C s 0 = C 0 ∧ buryC1 C s 2 s = 0 ∧ noH (buryC1 C s) s (fun _ => True) ∧ (∀ j, j < 48 → j / 6 = s → buryC1 C s 6 j = -1) ∧ noW (buryC1 C s) s (fun _ => True) ∧ noB (buryC1 C s) s (fun _ => True) := by
  have hn := h.1.n
  have s8 : s < 8 := (by omega)
  obtain ⟨b0, b1, b2⟩ := WC_bury0 (s := s) h s8
  have hr := (HR_heir h hs).c b1
  obtain ⟨p0, p1, p2⟩ := WC_passF (s := s) (heir := heirC C s) (C 0 8).toNat 0 (C := buryC0 C s) (by omega) b0 hr (fun j hj hl => by omega)
  have p3 : noH (passF s (heirC C s) (C 0 8).toNat 0 (buryC0 C s)) s (fun _ => True) := by
    intro j hj _ q
    have w := p0.2.2.1 j hj (by omega)
    rw [p1, b1] at w
    exact p2 j hj (by omega) q
  have pw := p0.1.w
  obtain ⟨q0, q1, q2, q3⟩ := WC_passW (s := s) (heir := heirC C s) 8 0 p0 (hr.c p1) p3 (fun j hj hl => by omega)
  have le := q0.1.le s s8
  obtain ⟨f0, f1, f2, f3⟩ := WC_forgL (s := s) (passW s (heirC C s) 8 0 (passF s (heirC C s) (C 0 8).toNat 0 (buryC0 C s)) 4 s).toNat 0 s8 (by omega) q0 q2 (fun j hj hl hr => by omega)
  have fw := f0.1.w
  have f8 := f1 8 (by omega) (by omega)
  have f9 := f1 9 (by omega) (by omega)
  obtain ⟨g0, g1, g2, g3⟩ := WC_forgW (s := s) 8 0 f0 (fun j hj _ => by rw [f8] at hj; rw [f9]; exact q3 j hj trivial) (fun j hj hl => by omega)
  unfold buryC1 forgC
  refine ⟨g0, ?_, ?_, ?_, ?_, g2, g3⟩
  · rw [g1 0 (by omega), f1 0 (by omega) (by omega), q1, p1, b1]
  · rw [g1 2 (by omega), f1 2 (by omega) (by omega), passW_c (by omega), passF_c (by omega), b2]
  · intro j hj _
    rw [g1 6 (by omega)]
    exact f2 j hj trivial
  · intro j hj hl
    rw [g1 6 (by omega)]
    by_cases e : ((j % 6 : Nat) : Int) < passW s (heirC C s) 8 0 (passF s (heirC C s) (C 0 8).toNat 0 (buryC0 C s)) 4 s
    · exact f3 j hj hl (by omega)
    · by_cases ne : forgL s (passW s (heirC C s) 8 0 (passF s (heirC C s) (C 0 8).toNat 0 (buryC0 C s)) 4 s).toNat 0 (passW s (heirC C s) 8 0 (passF s (heirC C s) (C 0 8).toNat 0 (buryC0 C s))) 6 j = -1
      · exact ne
      · have w := (f0.2.2.1 j hj ne).2.1
        rw [f1 4 (by omega) (by omega), hl] at w
        exact absurd w e
theorem WC_dead {C : Ch} {s : Nat} (h : WC C) (hs : (s : Int) < C 0 8) (h2 : C 2 s = 0) (hH : noH C s (fun _ => True)) (hL : ∀ j, j < 48 → j / 6 = s → C 6 j = -1) (hW : noW C s (fun _ => True)) (hB : noB C s (fun _ => True)) : WC (upd2 C 0 12 (setB (C 0 12) s)) := by
  have hn := h.1.n
  have m := h.1.ms 12 (by omega) (by omega)
  have r := setB_rng (s := s) m.1 m.2 (by omega)
  have hV' := VB_f12 h.1 r.1 r.2
  obtain ⟨hV, w1, w2, w3, w4, w5, w6, w7, w8, w9, w10⟩ := h
  have k8 : upd2 C 0 12 (setB (C 0 12) s) 0 8 = C 0 8 := upd2_k _ _ (by omega)
  have al : ∀ t : Nat, t ≠ s → (alv (upd2 C 0 12 (setB (C 0 12) s)) t ↔ alv C t) := by
    intro t ht
    unfold alv
    rw [upd2_same, inS_setB m.1 m.2 (by omega)]
    simp [ht]
  refine ⟨hV', ?_, ?_, ?_, ?_, ?_, ?_, ?_, ?_, ?_, ?_⟩
  · simp (disch := decide) only [W1, upd2_c]; exact w1
  · intro i hi hne
    simp (disch := decide) only [upd2_c, k8] at hne ⊢
    have q := w2 i hi hne
    have n1 := hH i hi trivial
    have hb := hV.ho i hi
    have n2 : i / 6 ≠ s := fun e => hne (hL i hi e)
    exact ⟨q.1, q.2.1, q.2.2.1, q.2.2.2.1, (al _ (by omega)).mpr q.2.2.2.2.1, (al _ n2).mpr q.2.2.2.2.2⟩
  · simp (disch := decide) only [W3, upd2_c]; exact w3
  · intro k hk
    simp (disch := decide) only [upd2_c, k8] at hk ⊢
    have q := w4 k hk
    have n1 := hW k hk trivial
    have n2 := hB k hk trivial
    have ws := hV.w
    have ha := hV.wa k (by omega)
    have hb := hV.wb k (by omega)
    exact ⟨q.1, q.2.1, q.2.2.1, q.2.2.2.1, (al _ (by omega)).mpr q.2.2.2.2.1, (al _ (by omega)).mpr q.2.2.2.2.2⟩
  · simp (disch := decide) only [W5, upd2_c]; exact w5
  · simp (disch := decide) only [W6, upd2_c]; exact w6
  · simp (disch := decide) only [W7, upd2_c, k8]; exact w7
  · intro j j1 j2 t ht
    rw [k8] at ht
    rw [upd2_at]
    split
    · rw [inS_setB m.1 m.2 (by omega), w8 12 (by omega) (by omega) t ht]
      simp; omega
    · exact w8 j j1 j2 t ht
  · simp (disch := decide) only [W9, upd2_c, k8]; exact w9
  · intro t ht hd
    rw [k8] at ht
    rw [upd2_same, inS_setB m.1 m.2 (by omega)] at hd
    rw [upd2_c _ _ (by decide)]
    by_cases e : t = s
    · rw [e]; exact h2
    · have : inS (C 0 12) t = true := by simpa [e] using hd
      exact w10 t ht this
theorem WC_bury {C : Ch} {z : Int} (h : WC C) : WC (buryC C z).2 := by
  have hn := h.1.n
  unfold buryC
  split
  · rename_i c
    obtain ⟨t, la⟩ := livesB_alv c
    obtain ⟨b0, b1, b2, b3, b4, b5, b6⟩ := WC_bury1 (s := z.toNat) h (by omega)
    have q := WC_cold0 (s := z.toNat) b0 (by omega)
    have e11 : buryC1 C z.toNat 0 11 = C 0 11 := by rw [b1]
    rw [e11] at q
    have q2 := WC_dead (s := z.toNat) q (by rw [upd2_k _ _ (by decide), b1]; omega) (by rw [upd2_c _ _ (by decide)]; exact b2) (fun j hj _ => by rw [upd2_c _ _ (by decide)]; exact b3 j hj trivial) (fun j hj hl => by rw [upd2_c _ _ (by decide)]; exact b4 j hj hl) (fun j hj _ => by rw [upd2_c _ _ (by decide)] at hj ⊢; exact b5 j hj trivial) (fun j hj _ => by rw [upd2_c _ _ (by decide)] at hj ⊢; exact b6 j hj trivial)
    rw [upd2_k _ _ (by decide), b1] at q2
    exact WC_settle q2
  · exact h
