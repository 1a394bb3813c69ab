theorem RR_bass {C : Ch} {A : Nat → Int} {B t : Nat} {m' : Int} {b : Bool} (hV : VB C) (h : RR C A B) (ht : t < 8) (hm : ∀ s, inS m' s = if s = t then b else inS (C 0 9) s) : RR (upd2 C 0 9 m') (updP A (B + 6 + 8 * t + 2) (b2i b)) B := by
  obtain ⟨⟨f0, f1, f2, f3, f5⟩, hs, hn, hh, hw⟩ := h
  have n8 := hV.n
  have w8 := hV.w
  have k : ∀ i, i ≠ 9 → upd2 C 0 9 m' 0 i = C 0 i := fun i hi => upd2_k _ _ (by omega)
  simp (disch := decide) only [RR, RRs, upd2_c, k 8 (by omega), k 10 (by omega), k 11 (by omega), k 12 (by omega), k 13 (by omega), k 14 (by omega), k 15 (by omega), upd2_same]
  refine ⟨⟨by rw [updP_ne _ _ (by omega)]; exact f0, by rw [updP_ne _ _ (by omega)]; exact f1, by rw [updP_ne _ _ (by omega)]; exact f2, by rw [updP_ne _ _ (by omega)]; exact f3, by rw [updP_ne _ _ (by omega)]; exact f5⟩, fun s s1 => ?_, fun s k s1 k1 => ?_, fun j hj => ?_, fun k hk => ?_⟩
  · obtain ⟨g0, g1, g2, g3, g4, g5, g6⟩ := hs s s1
    refine ⟨by rw [updP_ne _ _ (by omega)]; exact g0, by rw [updP_ne _ _ (by omega)]; exact g1, ?_, by rw [updP_ne _ _ (by omega)]; exact g3, by rw [updP_ne _ _ (by omega)]; exact g4, by rw [updP_ne _ _ (by omega)]; exact g5, by rw [updP_ne _ _ (by omega)]; exact g6⟩
    rw [updP_at, hm]
    by_cases e : s = t
    · rw [if_pos e, if_pos (by omega)]
    · rw [if_neg e, if_neg (by omega)]; exact g2
  · have := hV.le s (by omega)
    rw [updP_ne _ _ (by omega)]; exact hn s k s1 k1
  · rw [updP_ne _ _ (by omega), updP_ne _ _ (by omega)]; exact hh j hj
  · rw [updP_ne _ _ (by omega), updP_ne _ _ (by omega), updP_ne _ _ (by omega)]; exact hw k hk
theorem RR_deaf {C : Ch} {A : Nat → Int} {B t : Nat} {m' : Int} {b : Bool} (hV : VB C) (h : RR C A B) (ht : t < 8) (hm : ∀ s, inS m' s = if s = t then b else inS (C 0 10) s) : RR (upd2 C 0 10 m') (updP A (B + 6 + 8 * t + 4) (b2i b)) B := by
  obtain ⟨⟨f0, f1, f2, f3, f5⟩, hs, hn, hh, hw⟩ := h
  have n8 := hV.n
  have w8 := hV.w
  have k : ∀ i, i ≠ 10 → upd2 C 0 10 m' 0 i = C 0 i := fun i hi => upd2_k _ _ (by omega)
  simp (disch := decide) only [RR, RRs, upd2_c, k 8 (by omega), k 9 (by omega), k 11 (by omega), k 12 (by omega), k 13 (by omega), k 14 (by omega), k 15 (by omega), upd2_same]
  refine ⟨⟨by rw [updP_ne _ _ (by omega)]; exact f0, by rw [updP_ne _ _ (by omega)]; exact f1, by rw [updP_ne _ _ (by omega)]; exact f2, by rw [updP_ne _ _ (by omega)]; exact f3, by rw [updP_ne _ _ (by omega)]; exact f5⟩, fun s s1 => ?_, fun s k s1 k1 => ?_, fun j hj => ?_, fun k hk => ?_⟩
  · obtain ⟨g0, g1, g2, g3, g4, g5, g6⟩ := hs s s1
    refine ⟨by rw [updP_ne _ _ (by omega)]; exact g0, by rw [updP_ne _ _ (by omega)]; exact g1, by rw [updP_ne _ _ (by omega)]; exact g2, by rw [updP_ne _ _ (by omega)]; exact g3, ?_, by rw [updP_ne _ _ (by omega)]; exact g5, by rw [updP_ne _ _ (by omega)]; exact g6⟩
    rw [updP_at, hm]
    by_cases e : s = t
    · rw [if_pos e, if_pos (by omega)]
    · rw [if_neg e, if_neg (by omega)]; exact g4
  · have := hV.le s (by omega)
    rw [updP_ne _ _ (by omega)]; exact hn s k s1 k1
  · rw [updP_ne _ _ (by omega), updP_ne _ _ (by omega)]; exact hh j hj
  · rw [updP_ne _ _ (by omega), updP_ne _ _ (by omega), updP_ne _ _ (by omega)]; exact hw k hk
theorem addNt_4 (C : Ch) (s : Nat) (v : Int) (j : Nat) : addNoteC C s v 4 j = if j = s then C 4 s + 1 else C 4 j := by
  unfold addNoteC
  rw [upd2_at, upd2_c _ _ (by decide)]
theorem addNt_5 (C : Ch) (s : Nat) (v : Int) (j : Nat) : addNoteC C s v 5 j = if j = 6 * s + (C 4 s).toNat then v else C 5 j := by
  unfold addNoteC
  rw [upd2_c _ _ (by decide), upd2_at]
theorem RR_note {C : Ch} {A : Nat → Int} {B n t : Nat} {v : Int} (hV : VB C) (h : RR C A B) (n8 : n < 8) (ht : C 4 n = (t : Int)) (t6 : t < 6) : RR (addNoteC C n v) (updP (updP A (B + 70 + (6 * n + t)) v) (B + 6 + 8 * n + 1) ((t : Int) + 1)) B := by
  obtain ⟨⟨f0, f1, f2, f3, f5⟩, hs, hn, hh, hw⟩ := h
  have n0 := hV.n
  have w8 := hV.w
  have ne : ∀ j, j ≠ B + 70 + (6 * n + t) → j ≠ B + 6 + 8 * n + 1 → updP (updP A (B + 70 + (6 * n + t)) v) (B + 6 + 8 * n + 1) ((t : Int) + 1) j = A j := fun j a b => by rw [updP_ne _ _ b, updP_ne _ _ a]
  simp (disch := decide) only [RR, RRs, addNoteC_c]
  refine ⟨⟨by rw [ne _ (by omega) (by omega)]; exact f0, by rw [ne _ (by omega) (by omega)]; exact f1, by rw [ne _ (by omega) (by omega)]; exact f2, by rw [ne _ (by omega) (by omega)]; exact f3, by rw [ne _ (by omega) (by omega)]; exact f5⟩, fun s s1 => ?_, fun s k s1 k1 => ?_, fun i hi => ?_, fun k hk => ?_⟩
  · obtain ⟨g0, g1, g2, g3, g4, g5, g6⟩ := hs s s1
    refine ⟨by rw [ne _ (by omega) (by omega)]; exact g0, ?_, by rw [ne _ (by omega) (by omega)]; exact g2, by rw [ne _ (by omega) (by omega)]; exact g3, by rw [ne _ (by omega) (by omega)]; exact g4, by rw [ne _ (by omega) (by omega)]; exact g5, by rw [ne _ (by omega) (by omega)]; exact g6⟩
    rw [addNt_4]
    by_cases e : s = n
    · subst e; rw [if_pos rfl, ht, updP_same]
    · rw [if_neg e, ne _ (by omega) (by omega)]; exact g1
  · rw [addNt_4] at k1
    have le := hV.le s (by omega)
    rw [addNt_5, ht, show ((t : Int)).toNat = t from rfl]
    by_cases e : s = n
    · subst e
      rw [if_pos rfl, ht] at k1
      by_cases e2 : k = t
      · subst e2; rw [if_pos rfl, updP_ne _ _ (by omega), updP_same]
      · rw [if_neg (by omega), ne _ (by omega) (by omega)]; exact hn s k s1 (by rw [ht]; omega)
    · rw [if_neg e] at k1
      rw [if_neg (by omega), ne _ (by omega) (by omega)]; exact hn s k s1 k1
  · rw [ne _ (by omega) (by omega), ne _ (by omega) (by omega)]; exact hh i hi
  · rw [ne _ (by omega) (by omega), ne _ (by omega) (by omega), ne _ (by omega) (by omega)]; exact hw k hk
theorem RR_len {C : Ch} {A : Nat → Int} {B n : Nat} (hV : VB C) (h : RR C A B) (n8 : n < 8) : RR (upd2 C 4 n 0) (updP A (B + 6 + 8 * n + 1) 0) B := by
  obtain ⟨⟨f0, f1, f2, f3, f5⟩, hs, hn, hh, hw⟩ := h
  have n0 := hV.n
  have w8 := hV.w
  simp (disch := decide) only [RR, RRs, upd2_c]
  refine ⟨⟨by rw [updP_ne _ _ (by omega)]; exact f0, by rw [updP_ne _ _ (by omega)]; exact f1, by rw [updP_ne _ _ (by omega)]; exact f2, by rw [updP_ne _ _ (by omega)]; exact f3, by rw [updP_ne _ _ (by omega)]; exact f5⟩, fun s s1 => ?_, fun s k s1 k1 => ?_, fun i hi => ?_, fun k hk => ?_⟩
  · obtain ⟨g0, g1, g2, g3, g4, g5, g6⟩ := hs s s1
    refine ⟨by rw [updP_ne _ _ (by omega)]; exact g0, ?_, by rw [updP_ne _ _ (by omega)]; exact g2, by rw [updP_ne _ _ (by omega)]; exact g3, by rw [updP_ne _ _ (by omega)]; exact g4, by rw [updP_ne _ _ (by omega)]; exact g5, by rw [updP_ne _ _ (by omega)]; exact g6⟩
    rw [updP_at, upd2_at]
    by_cases e : s = n
    · rw [if_pos e, if_pos (by omega)]
    · rw [if_neg e, if_neg (by omega)]; exact g1
  · rw [upd2_at] at k1
    have := hV.le s (by omega)
    by_cases e : s = n
    · rw [if_pos e] at k1; omega
    · rw [if_neg e] at k1
      rw [updP_ne _ _ (by omega)]; exact hn s k s1 k1
  · rw [updP_ne _ _ (by omega), updP_ne _ _ (by omega)]; exact hh i hi
  · rw [updP_ne _ _ (by omega), updP_ne _ _ (by omega), updP_ne _ _ (by omega)]; exact hw k hk
theorem RR_oth {C : Ch} {A : Nat → Int} {B n j : Nat} {v : Int} (hV : VB C) (h : RR C A B) (hn8 : C 0 8 ≤ n) (n8 : n < 8) (hj : j < 8) : RR C (updP A (B + 6 + 8 * n + j) v) B := by
  obtain ⟨⟨f0, f1, f2, f3, f5⟩, hs, hn, hh, hw⟩ := h
  have n0 := hV.n
  have w8 := hV.w
  refine ⟨⟨by rw [updP_ne _ _ (by omega)]; exact f0, by rw [updP_ne _ _ (by omega)]; exact f1, by rw [updP_ne _ _ (by omega)]; exact f2, by rw [updP_ne _ _ (by omega)]; exact f3, by rw [updP_ne _ _ (by omega)]; exact f5⟩, fun s s1 => ?_, fun s k s1 k1 => ?_, fun i hi => ?_, fun k hk => ?_⟩
  · obtain ⟨g0, g1, g2, g3, g4, g5, g6⟩ := hs s s1
    exact ⟨by rw [updP_ne _ _ (by omega)]; exact g0, by rw [updP_ne _ _ (by omega)]; exact g1, by rw [updP_ne _ _ (by omega)]; exact g2, by rw [updP_ne _ _ (by omega)]; exact g3, by rw [updP_ne _ _ (by omega)]; exact g4, by rw [updP_ne _ _ (by omega)]; exact g5, by rw [updP_ne _ _ (by omega)]; exact g6⟩
  · have := hV.le s (by omega)
    rw [updP_ne _ _ (by omega)]; exact hn s k s1 k1
  · rw [updP_ne _ _ (by omega), updP_ne _ _ (by omega)]; exact hh i hi
  · rw [updP_ne _ _ (by omega), updP_ne _ _ (by omega), updP_ne _ _ (by omega)]; exact hw k hk
theorem addS_c {C : Ch} {w p : Int} {c : Nat} (h : 6 ≤ c) : addSingerC C w p c = C c := by
  unfold addSingerC
  rw [upd2_c _ _ (by omega), addNoteC_c (by omega) (by omega), addNoteC_c (by omega) (by omega), addNoteC_c (by omega) (by omega)]
  unfold addS0
  rw [upd2_c _ _ (by omega), upd2_c _ _ (by omega), upd2_c _ _ (by omega), upd2_c _ _ (by omega)]
theorem addS_0 (C : Ch) (w p : Int) (j : Nat) : addSingerC C w p 0 j = if j = 8 then C 0 8 + 1 else C 0 j := by
  unfold addSingerC
  rw [upd2_at, addNoteC_c (by decide) (by decide), addNoteC_c (by decide) (by decide), addNoteC_c (by decide) (by decide)]
  unfold addS0
  rw [upd2_c _ _ (by decide), upd2_c _ _ (by decide), upd2_c _ _ (by decide), upd2_c _ _ (by decide)]
theorem addS_1 (C : Ch) (w p : Int) (j : Nat) : addSingerC C w p 1 j = if j = (C 0 8).toNat then w else C 1 j := by
  unfold addSingerC
  rw [upd2_c _ _ (by decide), addNoteC_c (by decide) (by decide), addNoteC_c (by decide) (by decide), addNoteC_c (by decide) (by decide)]
  unfold addS0
  rw [upd2_c _ _ (by decide), upd2_c _ _ (by decide), upd2_c _ _ (by decide), upd2_at]
theorem addS_2 (C : Ch) (w p : Int) (j : Nat) : addSingerC C w p 2 j = if j = (C 0 8).toNat then p else C 2 j := by
  unfold addSingerC
  rw [upd2_c _ _ (by decide), addNoteC_c (by decide) (by decide), addNoteC_c (by decide) (by decide), addNoteC_c (by decide) (by decide)]
  unfold addS0
  rw [upd2_c _ _ (by decide), upd2_c _ _ (by decide), upd2_at, upd2_c _ _ (by decide)]
theorem addS_3 (C : Ch) (w p : Int) (j : Nat) : addSingerC C w p 3 j = if j = (C 0 8).toNat then -1 else C 3 j := by
  unfold addSingerC
  rw [upd2_c _ _ (by decide), addNoteC_c (by decide) (by decide), addNoteC_c (by decide) (by decide), addNoteC_c (by decide) (by decide)]
  unfold addS0
  rw [upd2_c _ _ (by decide), upd2_at, upd2_c _ _ (by decide), upd2_c _ _ (by decide)]
theorem addS_4 (C : Ch) (w p : Int) (j : Nat) : addSingerC C w p 4 j = if j = (C 0 8).toNat then 3 else C 4 j := by
  unfold addSingerC
  rw [upd2_c _ _ (by decide)]
  by_cases e : j = (C 0 8).toNat
  · rw [e, if_pos rfl, addNoteC_4, addNoteC_4, addNoteC_4, addS0_4]
    rfl
  · rw [if_neg e, addNt_4, if_neg e, addNt_4, if_neg e, addNt_4, if_neg e]
    unfold addS0
    rw [upd2_k _ _ e, upd2_c _ _ (by decide), upd2_c _ _ (by decide), upd2_c _ _ (by decide)]
theorem addS_5 (C : Ch) (w p : Int) (j : Nat) : addSingerC C w p 5 j = if j = 6 * (C 0 8).toNat + 2 then 16 else if j = 6 * (C 0 8).toNat + 1 then 14 else if j = 6 * (C 0 8).toNat then 12 else C 5 j := by
  unfold addSingerC
  rw [upd2_c _ _ (by decide), addNt_5, addNt_5, addNt_5, addNoteC_4, addNoteC_4, addS0_4]
  unfold addS0
  rw [upd2_c _ _ (show 5 ≠ 4 by decide), upd2_c _ _ (show 5 ≠ 3 by decide), upd2_c _ _ (show 5 ≠ 2 by decide), upd2_c _ _ (show 5 ≠ 1 by decide)]
  rfl
def finA (A : Nat → Int) (B n : Nat) : Nat → Int := updP (updP (updP (updP (updP (updP A (B + 6 + 8 * n + 5) (-1)) (B + 6 + 8 * n + 1) 3) (B + 70 + 6 * n) 12) (B + 70 + 6 * n + 1) 14) (B + 70 + 6 * n + 2) 16) B ((n : Int) + 1)
theorem finA_at (A : Nat → Int) (B n j : Nat) : finA A B n j = if j = B then (n : Int) + 1 else if j = B + 70 + 6 * n + 2 then 16 else if j = B + 70 + 6 * n + 1 then 14 else if j = B + 70 + 6 * n then 12 else if j = B + 6 + 8 * n + 1 then 3 else if j = B + 6 + 8 * n + 5 then -1 else A j := rfl
theorem RR_add {C : Ch} {A : Nat → Int} {B n : Nat} {w p : Int} (hW : WC C) (h : RR C A B) (hn : C 0 8 = n) (n8 : n < 8) (hp : A (B + 6 + 8 * n + 0) = p) (h2 : A (B + 6 + 8 * n + 2) = 0) (h3 : A (B + 6 + 8 * n + 3) = 0) (h4 : A (B + 6 + 8 * n + 4) = 0) (h6 : A (B + 6 + 8 * n + 6) = 0) : RR (addSingerC C w p) (finA A B n) B := by
  obtain ⟨hV, w1, w2, w3, w4, w5, w6, w7, w8, w9, w10⟩ := hW
  obtain ⟨⟨f0, f1, f2, f3, f5⟩, hs, hno, hh, hw⟩ := h
  have b8 := hV.w
  have tn : (C 0 8).toNat = n := by rw [hn]; rfl
  have bit : ∀ j, 9 ≤ j → j ≤ 12 → b2i (inS (C 0 j) n) = 0 := fun j j1 j2 => by rw [w8 j j1 j2 n (by omega)]; rfl
  have e : ∀ j, 6 ≤ j → addSingerC C w p j = C j := fun j hj => addS_c hj
  have z : ∀ j, j ≠ 8 → addSingerC C w p 0 j = C 0 j := fun j hj => by rw [addS_0, if_neg hj]
  simp only [RR, RRs, e 6 (by omega), e 7 (by omega), e 8 (by omega), e 9 (by omega), e 10 (by omega), e 11 (by omega), z 9 (by omega), z 10 (by omega), z 11 (by omega), z 12 (by omega), z 13 (by omega), z 14 (by omega), z 15 (by omega)]
  rw [addS_0, if_pos rfl, hn]
  have ne : ∀ j, j ≠ B → ¬ (B + 70 + 6 * n ≤ j ∧ j < B + 70 + 6 * n + 3) → j ≠ B + 6 + 8 * n + 1 → j ≠ B + 6 + 8 * n + 5 → finA A B n j = A j := fun j a b c d => by
    rw [finA_at, if_neg (by omega), if_neg (by omega), if_neg (by omega), if_neg (by omega), if_neg (by omega), if_neg (by omega)]
  refine ⟨⟨by rw [finA_at, if_pos (by omega)], by rw [ne _ (by omega) (by omega) (by omega) (by omega)]; exact f1, by rw [ne _ (by omega) (by omega) (by omega) (by omega)]; exact f2, by rw [ne _ (by omega) (by omega) (by omega) (by omega)]; exact f3, by rw [ne _ (by omega) (by omega) (by omega) (by omega)]; exact f5⟩, fun s s1 => ?_, fun s k s1 k1 => ?_, fun i hi => ?_, fun k hk => ?_⟩
  · rw [addS_2, addS_4, addS_3, tn]
    by_cases q : s = n
    · subst q
      rw [if_pos rfl, if_pos rfl, if_pos rfl, bit 9 (by omega) (by omega), bit 10 (by omega) (by omega), bit 11 (by omega) (by omega), bit 12 (by omega) (by omega)]
      refine ⟨by rw [ne _ (by omega) (by omega) (by omega) (by omega)]; exact hp, ?_, by rw [ne _ (by omega) (by omega) (by omega) (by omega)]; exact h2, by rw [ne _ (by omega) (by omega) (by omega) (by omega)]; exact h3, by rw [ne _ (by omega) (by omega) (by omega) (by omega)]; exact h4, ?_, by rw [ne _ (by omega) (by omega) (by omega) (by omega)]; exact h6⟩
      · rw [finA_at, if_neg (by omega), if_neg (by omega), if_neg (by omega), if_neg (by omega), if_pos rfl]
      · rw [finA_at, if_neg (by omega), if_neg (by omega), if_neg (by omega), if_neg (by omega), if_neg (by omega), if_pos rfl]
    · rw [if_neg q, if_neg q, if_neg q]
      obtain ⟨g0, g1, g2, g3, g4, g5, g6⟩ := hs s (by omega)
      exact ⟨by rw [ne _ (by omega) (by omega) (by omega) (by omega)]; exact g0, by rw [ne _ (by omega) (by omega) (by omega) (by omega)]; exact g1, by rw [ne _ (by omega) (by omega) (by omega) (by omega)]; exact g2, by rw [ne _ (by omega) (by omega) (by omega) (by omega)]; exact g3, by rw [ne _ (by omega) (by omega) (by omega) (by omega)]; exact g4, by rw [ne _ (by omega) (by omega) (by omega) (by omega)]; exact g5, by rw [ne _ (by omega) (by omega) (by omega) (by omega)]; exact g6⟩
  · rw [addS_4, tn] at k1
    rw [addS_5, tn]
    by_cases q : s = n
    · subst q
      rw [if_pos rfl] at k1
      have : k = 0 ∨ k = 1 ∨ k = 2 := (by omega)
      rcases this with rfl | rfl | rfl
      · rw [finA_at, if_neg (by omega), if_neg (by omega), if_neg (by omega), if_pos (by omega), if_neg (by omega), if_neg (by omega), if_pos (by omega)]
      · rw [finA_at, if_neg (by omega), if_neg (by omega), if_pos (by omega), if_neg (by omega), if_pos (by omega)]
      · rw [finA_at, if_neg (by omega), if_pos (by omega), if_pos (by omega)]
    · rw [if_neg q] at k1
      have le := hV.le s (by omega)
      rw [if_neg (by omega), if_neg (by omega), if_neg (by omega), ne _ (by omega) (by omega) (by omega) (by omega)]
      exact hno s k (by omega) k1
  · rw [ne _ (by omega) (by omega) (by omega) (by omega), ne _ (by omega) (by omega) (by omega) (by omega)]; exact hh i hi
  · rw [ne _ (by omega) (by omega) (by omega) (by omega), ne _ (by omega) (by omega) (by omega) (by omega), ne _ (by omega) (by omega) (by omega) (by omega)]; exact hw k hk
theorem WC_addS {C : Ch} {n : Nat} {w p : Int} (h : WC C) (hn : C 0 8 = n) (n8 : n < 8) (p1 : 0 ≤ p) (p2 : p ≤ 9999) : WC (addSingerC C w p) := by
  obtain ⟨hV, w1, w2, w3, w4, w5, w6, w7, w8, w9, w10⟩ := h
  have tn : (C 0 8).toNat = n := by rw [hn]; rfl
  have e : ∀ j, 6 ≤ j → addSingerC C w p j = C j := fun j hj => addS_c hj
  have z : ∀ j, j ≠ 8 → addSingerC C w p 0 j = C 0 j := fun j hj => by rw [addS_0, if_neg hj]
  have z8 : addSingerC C w p 0 8 = (n : Int) + 1 := by rw [addS_0, if_pos rfl, hn]
  refine ⟨VB_addSinger hV (by omega) p1 p2, ?_, ?_, ?_, ?_, ?_, ?_, ?_, ?_, ?_, ?_⟩
  · simp only [W1, e 6 (by omega), e 7 (by omega)]; exact w1
  · simp only [W2, alv, e 6 (by omega), z8, z 12 (by omega)]
    intro i hi hc
    obtain ⟨a1, a2, a3, a4, a5, a6⟩ := w2 i hi hc
    rw [addS_4, tn, if_neg (by omega)]
    exact ⟨(by omega), a2, (by omega), a4, a5, a6⟩
  · simp only [W3, e 6 (by omega)]; exact w3
  · simp only [W4, alv, e 8 (by omega), e 9 (by omega), e 10 (by omega), e 11 (by omega), z8, z 12 (by omega)]
    intro k hk
    obtain ⟨a1, a2, a3, a4, a5, a6⟩ := w4 k hk
    exact ⟨(by omega), (by omega), a3, a4, a5, a6⟩
  · simp only [W5, e 8 (by omega), e 9 (by omega), e 10 (by omega)]; exact w5
  · simp only [W6, e 6 (by omega), e 8 (by omega), e 9 (by omega), e 10 (by omega)]; exact w6
  · simp only [W7, z8]
    intro s hs
    rw [addS_4, tn]
    split
    · omega
    · exact w7 s (by omega)
  · intro j j1 j2 s hs
    rw [z8] at hs
    rw [z j (by omega)]
    exact w8 j j1 j2 s (by omega)
  · simp only [W9, z8]
    intro s hs
    rw [addS_3, tn]
    split
    · omega
    · have := w9 s (by omega)
      omega
  · simp only [W10, z8, z 12 (by omega)]
    intro s hs hd
    by_cases q : s = n
    · rw [w8 12 (by omega) (by omega) s (by omega)] at hd; cases hd
    · rw [addS_2, tn, if_neg q]
      exact w10 s (by omega) hd
theorem WC_line {C D : Ch} {n : Nat} (h : WC C) (hV : VB D) (hc : ∀ c, c ≠ 4 → c ≠ 5 → D c = C c) (h4 : ∀ j, j ≠ n → D 4 j = C 4 j) (hl : 1 ≤ D 4 n) (hf : ∀ i, i < 48 → i / 6 = n → C 6 i = -1) : WC D := by
  obtain ⟨_, w1, w2, w3, w4, w5, w6, w7, w8, w9, w10⟩ := h
  refine ⟨hV, ?_, ?_, ?_, ?_, ?_, ?_, ?_, ?_, ?_, ?_⟩
  · simp only [W1, hc 6 (by omega) (by omega), hc 7 (by omega) (by omega)]; exact w1
  · simp only [W2, alv, hc 0 (by omega) (by omega), hc 6 (by omega) (by omega)]
    intro i hi hq
    have ne : i / 6 ≠ n := fun q => hq (hf i hi q)
    rw [h4 _ ne]
    exact w2 i hi hq
  · simp only [W3, hc 6 (by omega) (by omega)]; exact w3
  · simp only [W4, alv, hc 0 (by omega) (by omega), hc 8 (by omega) (by omega), hc 9 (by omega) (by omega), hc 10 (by omega) (by omega), hc 11 (by omega) (by omega)]; exact w4
  · simp only [W5, hc 8 (by omega) (by omega), hc 9 (by omega) (by omega), hc 10 (by omega) (by omega)]; exact w5
  · simp only [W6, hc 6 (by omega) (by omega), hc 8 (by omega) (by omega), hc 9 (by omega) (by omega), hc 10 (by omega) (by omega)]; exact w6
  · simp only [W7, hc 0 (by omega) (by omega)]
    intro s hs
    by_cases q : s = n
    · rw [q]; exact hl
    · rw [h4 s q]; exact w7 s hs
  · simp only [W8, hc 0 (by omega) (by omega)]; exact w8
  · simp only [W9, hc 0 (by omega) (by omega), hc 3 (by omega) (by omega)]; exact w9
  · simp only [W10, hc 0 (by omega) (by omega), hc 2 (by omega) (by omega)]; exact w10
theorem WC_empty {C : Ch} (hV : VB C) : WC (emptyC C) := by
  have e0 : ∀ j, 8 ≤ j → j ≤ 15 → emptyC C 0 j = 0 := by
    intro j h1 h2
    have : j = 8 ∨ j = 9 ∨ j = 10 ∨ j = 11 ∨ j = 12 ∨ j = 13 ∨ j = 14 ∨ j = 15 := (by omega)
    rcases this with rfl | rfl | rfl | rfl | rfl | rfl | rfl | rfl <;> simp [emptyC, upd2]
  have e8 : emptyC C 8 3 = 0 := by simp [emptyC, upd2]
  have e6 : ∀ i, i < 48 → emptyC C 6 i = -1 := fun i hi => by
    simp [emptyC, upd2, fillC, hi]
  have e7 : ∀ i, i < 48 → emptyC C 7 i = 0 := fun i hi => by
    simp [emptyC, upd2, fillC, hi]
  refine ⟨VB_empty hV, fun i hi => by rw [e6 i hi, e7 i hi]; decide, fun i hi hc => absurd (e6 i hi) hc, fun i j hi hj _ _ _ => e6 i hi, fun k hk => ?_, fun k j hk => ?_, fun k hk => ?_, fun s hs => ?_, fun j j1 j2 s hs => ?_, fun s hs => ?_, fun s hs => ?_⟩
  · rw [e8] at hk; omega
  · rw [e8] at hk; omega
  · rw [e8] at hk; omega
  · rw [e0 8 (by omega) (by omega)] at hs; omega
  · rw [e0 j (by omega) (by omega)]
    show (0 : Nat).testBit s = false
    exact Nat.zero_testBit s
  · rw [e0 8 (by omega) (by omega)] at hs; omega
  · rw [e0 8 (by omega) (by omega)] at hs; omega
