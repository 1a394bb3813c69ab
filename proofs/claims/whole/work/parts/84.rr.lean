theorem updP_at (A : Nat → Int) (k : Nat) (v : Int) (j : Nat) : updP A k v j = if j = k then v else A j := rfl
/-- the reference's memory: region 24, its row of numbers apart -/
def zA (M : Mem) (Z : Ch) (A : Nat → Int) : Mem := setR M 24 (setC Z 1 A)
theorem zA_1 (M : Mem) (Z : Ch) (A : Nat → Int) : zA M Z A 24 1 = A := by unfold zA; rw [setR_same, setC_same]
theorem zA_c (M : Mem) (Z : Ch) (A : Nat → Int) {c : Nat} (h : c ≠ 1) : zA M Z A 24 c = Z c := by unfold zA; rw [setR_same, setC_ne _ _ h]
theorem zA_0 (M : Mem) (Z : Ch) (A : Nat → Int) : zA M Z A 24 0 = Z 0 := zA_c M Z A (by decide)
theorem zA_u (M : Mem) (Z : Ch) (A : Nat → Int) (j : Nat) (v : Int) : upd3 (zA M Z A) 24 1 j v = zA M Z (updP A j v) := by
  unfold zA
  rw [upd3_setR, setR_same, setR_setR, upd2_setC]
theorem upd2_setCo (T : Ch) {c c' : Nat} (k : Nat) (P : Nat → Int) (v : Int) (h : c' ≠ c) : upd2 (setC T c P) c' k v = setC (upd2 T c' k v) c P := by
  funext x j
  unfold upd2 setC
  by_cases e : x = c
  · subst e
    rw [if_pos rfl, if_neg (fun q => h q.1.symm), if_pos rfl]
  · simp [e]
theorem zA_uo (M : Mem) (Z : Ch) (A : Nat → Int) {c : Nat} (h : c ≠ 1) (j : Nat) (v : Int) : upd3 (zA M Z A) 24 c j v = zA M (upd2 Z c j v) A := by
  unfold zA
  rw [upd3_setR, setR_same, setR_setR, upd2_setCo _ _ _ _ h]
theorem zA_u0 (M : Mem) (Z : Ch) (A : Nat → Int) (j : Nat) (v : Int) : upd3 (zA M Z A) 24 0 j v = zA M (upd2 Z 0 j v) A := zA_uo M Z A (by decide) j v
def RRs (C : Ch) (A : Nat → Int) (B s : Nat) : Prop := A (B + 6 + 8 * s + 0) = C 2 s ∧ A (B + 6 + 8 * s + 1) = C 4 s ∧ A (B + 6 + 8 * s + 2) = b2i (inS (C 0 9) s) ∧ A (B + 6 + 8 * s + 3) = b2i (inS (C 0 11) s) ∧ A (B + 6 + 8 * s + 4) = b2i (inS (C 0 10) s) ∧ A (B + 6 + 8 * s + 5) = C 3 s ∧ A (B + 6 + 8 * s + 6) = b2i (inS (C 0 12) s)
/-- the class's choir C, and the reference's from B on -/
def RR (C : Ch) (A : Nat → Int) (B : Nat) : Prop :=
  (A (B + 0) = C 0 8 ∧ A (B + 1) = C 0 13 ∧ A (B + 2) = C 0 14 ∧ A (B + 3) = C 0 15 ∧ A (B + 5) = C 8 3) ∧
  (∀ s : Nat, (s : Int) < C 0 8 → RRs C A B s) ∧
  (∀ s k : Nat, (s : Int) < C 0 8 → (k : Int) < C 4 s → A (B + 70 + (6 * s + k)) = C 5 (6 * s + k)) ∧
  (∀ i, i < 48 → A (B + 118 + i) = C 6 i ∧ A (B + 166 + i) = C 7 i) ∧
  (∀ k : Nat, (k : Int) < C 8 3 → A (B + 214 + 3 * k) = C 9 k ∧ A (B + 214 + 3 * k + 1) = C 10 k ∧ A (B + 214 + 3 * k + 2) = C 11 k)
def FrA (B : Nat) (A A' : Nat → Int) : Prop := ∀ j, ¬ (B ≤ j ∧ j < B + 238 ∧ j ≠ B + 4) → A' j = A j
theorem FrA.rf (B : Nat) (A : Nat → Int) : FrA B A A := fun _ _ => rfl
theorem FrA.tr {B : Nat} {A A' A'' : Nat → Int} (h : FrA B A A') (h' : FrA B A' A'') : FrA B A A'' := fun j hj => by rw [h' j hj, h j hj]
theorem FrA.u {B : Nat} {A A' : Nat → Int} (h : FrA B A A') {j : Nat} (v : Int) (h1 : B ≤ j) (h2 : j < B + 238) (h3 : j ≠ B + 4 := by omega) : FrA B A (updP A' j v) := fun i hi => by
  rw [updP_ne _ _ (by omega)]
  exact h i hi
theorem RR.fr {C : Ch} {A A' : Nat → Int} {B : Nat} (hV : VB C) (h : RR C A B) (e : ∀ j, B ≤ j → j < B + 238 → A' j = A j) : RR C A' B := by
  obtain ⟨⟨f0, f1, f2, f3, f5⟩, hs, hn, hh, hw⟩ := h
  have n8 := hV.n
  have w8 := hV.w
  refine ⟨⟨by rw [e _ (by omega) (by omega)]; exact f0, by rw [e _ (by omega) (by omega)]; exact f1, by rw [e _ (by omega) (by omega)]; exact f2, by rw [e _ (by omega) (by omega)]; exact f3, by rw [e _ (by omega) (by omega)]; exact f5⟩, fun s s1 => ?_, fun s k s1 k1 => ?_, fun i hi => ?_, fun k hk => ?_⟩
  · obtain ⟨g0, g1, g2, g3, g4, g5, g6⟩ := hs s s1
    exact ⟨by rw [e _ (by omega) (by omega)]; exact g0, by rw [e _ (by omega) (by omega)]; exact g1, by rw [e _ (by omega) (by omega)]; exact g2, by rw [e _ (by omega) (by omega)]; exact g3, by rw [e _ (by omega) (by omega)]; exact g4, by rw [e _ (by omega) (by omega)]; exact g5, by rw [e _ (by omega) (by omega)]; exact g6⟩
  · have := hV.le s (by omega)
    rw [e _ (by omega) (by omega)]; exact hn s k s1 k1
  · rw [e _ (by omega) (by omega), e _ (by omega) (by omega)]; exact hh i hi
  · rw [e _ (by omega) (by omega), e _ (by omega) (by omega), e _ (by omega) (by omega)]; exact hw k hk
theorem RR_6 {C : Ch} {A : Nat → Int} {B i : Nat} {v : Int} (hV : VB C) (h : RR C A B) (hi : i < 48) : RR (upd2 C 6 i v) (updP A (B + 118 + i) v) B := by
  obtain ⟨⟨f0, f1, f2, f3, f5⟩, hs, hn, hh, hw⟩ := h
  have n8 := hV.n
  have w8 := hV.w
  simp (disch := decide) only [RR, RRs, upd2_c]
  refine ⟨⟨by rw [updP_ne _ _ (by omega)]; exact f0, by rw [updP_ne _ _ (by omega)]; exact f1, by rw [updP_ne _ _ (by omega)]; exact f2, by rw [updP_ne _ _ (by omega)]; exact f3, by rw [updP_ne _ _ (by omega)]; exact f5⟩, fun s s1 => ?_, fun s k s1 k1 => ?_, fun j hj => ?_, fun k hk => ?_⟩
  · obtain ⟨g0, g1, g2, g3, g4, g5, g6⟩ := hs s s1
    exact ⟨by rw [updP_ne _ _ (by omega)]; exact g0, by rw [updP_ne _ _ (by omega)]; exact g1, by rw [updP_ne _ _ (by omega)]; exact g2, by rw [updP_ne _ _ (by omega)]; exact g3, by rw [updP_ne _ _ (by omega)]; exact g4, by rw [updP_ne _ _ (by omega)]; exact g5, by rw [updP_ne _ _ (by omega)]; exact g6⟩
  · have := hV.le s (by omega)
    rw [updP_ne _ _ (by omega)]; exact hn s k s1 k1
  · rw [updP_at, updP_ne _ _ (show B + 166 + j ≠ B + 118 + i by omega), upd2_at]
    refine ⟨?_, (hh j hj).2⟩
    by_cases e : j = i
    · rw [if_pos e, if_pos (by omega)]
    · rw [if_neg e, if_neg (by omega)]; exact (hh j hj).1
  · rw [updP_ne _ _ (by omega), updP_ne _ _ (by omega), updP_ne _ _ (by omega)]; exact hw k hk
theorem RR_7 {C : Ch} {A : Nat → Int} {B i : Nat} {v : Int} (hV : VB C) (h : RR C A B) (hi : i < 48) : RR (upd2 C 7 i v) (updP A (B + 166 + i) v) B := by
  obtain ⟨⟨f0, f1, f2, f3, f5⟩, hs, hn, hh, hw⟩ := h
  have n8 := hV.n
  have w8 := hV.w
  simp (disch := decide) only [RR, RRs, upd2_c]
  refine ⟨⟨by rw [updP_ne _ _ (by omega)]; exact f0, by rw [updP_ne _ _ (by omega)]; exact f1, by rw [updP_ne _ _ (by omega)]; exact f2, by rw [updP_ne _ _ (by omega)]; exact f3, by rw [updP_ne _ _ (by omega)]; exact f5⟩, fun s s1 => ?_, fun s k s1 k1 => ?_, fun j hj => ?_, fun k hk => ?_⟩
  · obtain ⟨g0, g1, g2, g3, g4, g5, g6⟩ := hs s s1
    exact ⟨by rw [updP_ne _ _ (by omega)]; exact g0, by rw [updP_ne _ _ (by omega)]; exact g1, by rw [updP_ne _ _ (by omega)]; exact g2, by rw [updP_ne _ _ (by omega)]; exact g3, by rw [updP_ne _ _ (by omega)]; exact g4, by rw [updP_ne _ _ (by omega)]; exact g5, by rw [updP_ne _ _ (by omega)]; exact g6⟩
  · have := hV.le s (by omega)
    rw [updP_ne _ _ (by omega)]; exact hn s k s1 k1
  · rw [updP_at A _ v (B + 166 + j), updP_ne _ _ (show B + 118 + j ≠ B + 166 + i by omega), upd2_at]
    refine ⟨(hh j hj).1, ?_⟩
    by_cases e : j = i
    · rw [if_pos e, if_pos (by omega)]
    · rw [if_neg e, if_neg (by omega)]; exact (hh j hj).2
  · rw [updP_ne _ _ (by omega), updP_ne _ _ (by omega), updP_ne _ _ (by omega)]; exact hw k hk
theorem RR_2 {C : Ch} {A : Nat → Int} {B t : Nat} {v : Int} (hV : VB C) (h : RR C A B) (ht : t < 8) : RR (upd2 C 2 t v) (updP A (B + 6 + 8 * t + 0) v) B := by
  obtain ⟨⟨f0, f1, f2, f3, f5⟩, hs, hn, hh, hw⟩ := h
  have n8 := hV.n
  have w8 := hV.w
  simp (disch := decide) only [RR, RRs, upd2_c]
  refine ⟨⟨by rw [updP_ne _ _ (by omega)]; exact f0, by rw [updP_ne _ _ (by omega)]; exact f1, by rw [updP_ne _ _ (by omega)]; exact f2, by rw [updP_ne _ _ (by omega)]; exact f3, by rw [updP_ne _ _ (by omega)]; exact f5⟩, fun s s1 => ?_, fun s k s1 k1 => ?_, fun j hj => ?_, fun k hk => ?_⟩
  · obtain ⟨g0, g1, g2, g3, g4, g5, g6⟩ := hs s s1
    refine ⟨?_, by rw [updP_ne _ _ (by omega)]; exact g1, by rw [updP_ne _ _ (by omega)]; exact g2, by rw [updP_ne _ _ (by omega)]; exact g3, by rw [updP_ne _ _ (by omega)]; exact g4, by rw [updP_ne _ _ (by omega)]; exact g5, by rw [updP_ne _ _ (by omega)]; exact g6⟩
    rw [updP_at, upd2_at]
    by_cases e : s = t
    · rw [if_pos e, if_pos (by omega)]
    · rw [if_neg e, if_neg (by omega)]; exact g0
  · have := hV.le s (by omega)
    rw [updP_ne _ _ (by omega)]; exact hn s k s1 k1
  · rw [updP_ne _ _ (by omega), updP_ne _ _ (by omega)]; exact hh j hj
  · rw [updP_ne _ _ (by omega), updP_ne _ _ (by omega), updP_ne _ _ (by omega)]; exact hw k hk
theorem RR_3 {C : Ch} {A : Nat → Int} {B t : Nat} {v : Int} (hV : VB C) (h : RR C A B) (ht : t < 8) : RR (upd2 C 3 t v) (updP A (B + 6 + 8 * t + 5) v) B := by
  obtain ⟨⟨f0, f1, f2, f3, f5⟩, hs, hn, hh, hw⟩ := h
  have n8 := hV.n
  have w8 := hV.w
  simp (disch := decide) only [RR, RRs, upd2_c]
  refine ⟨⟨by rw [updP_ne _ _ (by omega)]; exact f0, by rw [updP_ne _ _ (by omega)]; exact f1, by rw [updP_ne _ _ (by omega)]; exact f2, by rw [updP_ne _ _ (by omega)]; exact f3, by rw [updP_ne _ _ (by omega)]; exact f5⟩, fun s s1 => ?_, fun s k s1 k1 => ?_, fun j hj => ?_, fun k hk => ?_⟩
  · obtain ⟨g0, g1, g2, g3, g4, g5, g6⟩ := hs s s1
    refine ⟨by rw [updP_ne _ _ (by omega)]; exact g0, by rw [updP_ne _ _ (by omega)]; exact g1, by rw [updP_ne _ _ (by omega)]; exact g2, by rw [updP_ne _ _ (by omega)]; exact g3, by rw [updP_ne _ _ (by omega)]; exact g4, ?_, by rw [updP_ne _ _ (by omega)]; exact g6⟩
    rw [updP_at, upd2_at]
    by_cases e : s = t
    · rw [if_pos e, if_pos (by omega)]
    · rw [if_neg e, if_neg (by omega)]; exact g5
  · have := hV.le s (by omega)
    rw [updP_ne _ _ (by omega)]; exact hn s k s1 k1
  · rw [updP_ne _ _ (by omega), updP_ne _ _ (by omega)]; exact hh j hj
  · rw [updP_ne _ _ (by omega), updP_ne _ _ (by omega), updP_ne _ _ (by omega)]; exact hw k hk
/-- hums, SUNDAY, what was paid -/
theorem RR_f {C : Ch} {A : Nat → Int} {B j : Nat} {v : Int} (hV : VB C) (h : RR C A B) (hj : 13 ≤ j) (hj2 : j ≤ 15) : RR (upd2 C 0 j v) (updP A (B + (j - 12)) v) B := by
  obtain ⟨⟨f0, f1, f2, f3, f5⟩, hs, hn, hh, hw⟩ := h
  have n8 := hV.n
  have w8 := hV.w
  have k : ∀ i, i ≤ 12 → upd2 C 0 j v 0 i = C 0 i := fun i hi => upd2_k _ _ (by omega)
  simp (disch := decide) only [RR, RRs, upd2_c, k 8 (by omega), k 9 (by omega), k 10 (by omega), k 11 (by omega), k 12 (by omega)]
  refine ⟨⟨by rw [updP_ne _ _ (by omega)]; exact f0, ?_, ?_, ?_, by rw [updP_ne _ _ (by omega)]; exact f5⟩, fun s s1 => ?_, fun s k s1 k1 => ?_, fun i hi => ?_, fun k hk => ?_⟩
  · rw [updP_at, upd2_at]
    by_cases e : 13 = j
    · rw [if_pos e, if_pos (by omega)]
    · rw [if_neg e, if_neg (by omega)]; exact f1
  · rw [updP_at, upd2_at]
    by_cases e : 14 = j
    · rw [if_pos e, if_pos (by omega)]
    · rw [if_neg e, if_neg (by omega)]; exact f2
  · rw [updP_at, upd2_at]
    by_cases e : 15 = j
    · rw [if_pos e, if_pos (by omega)]
    · rw [if_neg e, if_neg (by omega)]; exact f3
  · obtain ⟨g0, g1, g2, g3, g4, g5, g6⟩ := hs s s1
    exact ⟨by rw [updP_ne _ _ (by omega)]; exact g0, by rw [updP_ne _ _ (by omega)]; exact g1, by rw [updP_ne _ _ (by omega)]; exact g2, by rw [updP_ne _ _ (by omega)]; exact g3, by rw [updP_ne _ _ (by omega)]; exact g4, by rw [updP_ne _ _ (by omega)]; exact g5, by rw [updP_ne _ _ (by omega)]; exact g6⟩
  · have := hV.le s (by omega)
    rw [updP_ne _ _ (by omega)]; exact hn s k s1 k1
  · rw [updP_ne _ _ (by omega), updP_ne _ _ (by omega)]; exact hh i hi
  · rw [updP_ne _ _ (by omega), updP_ne _ _ (by omega), updP_ne _ _ (by omega)]; exact hw k hk
/-- the cold ones, the dead -/
theorem RR_cold {C : Ch} {A : Nat → Int} {B t : Nat} {m' : Int} {b : Bool} (hV : VB C) (h : RR C A B) (ht : t < 8) (hm : ∀ s, inS m' s = if s = t then b else inS (C 0 11) s) : RR (upd2 C 0 11 m') (updP A (B + 6 + 8 * t + 3) (b2i b)) B := by
  obtain ⟨⟨f0, f1, f2, f3, f5⟩, hs, hn, hh, hw⟩ := h
  have n8 := hV.n
  have w8 := hV.w
  have k : ∀ i, i ≠ 11 → upd2 C 0 11 m' 0 i = C 0 i := fun i hi => upd2_k _ _ (by omega)
  simp (disch := decide) only [RR, RRs, upd2_c, k 8 (by omega), k 9 (by omega), k 10 (by omega), k 12 (by omega), k 13 (by omega), k 14 (by omega), k 15 (by omega), upd2_same]
  refine ⟨⟨by rw [updP_ne _ _ (by omega)]; exact f0, by rw [updP_ne _ _ (by omega)]; exact f1, by rw [updP_ne _ _ (by omega)]; exact f2, by rw [updP_ne _ _ (by omega)]; exact f3, by rw [updP_ne _ _ (by omega)]; exact f5⟩, fun s s1 => ?_, fun s k s1 k1 => ?_, fun j hj => ?_, fun k hk => ?_⟩
  · obtain ⟨g0, g1, g2, g3, g4, g5, g6⟩ := hs s s1
    refine ⟨by rw [updP_ne _ _ (by omega)]; exact g0, by rw [updP_ne _ _ (by omega)]; exact g1, by rw [updP_ne _ _ (by omega)]; exact g2, ?_, by rw [updP_ne _ _ (by omega)]; exact g4, by rw [updP_ne _ _ (by omega)]; exact g5, by rw [updP_ne _ _ (by omega)]; exact g6⟩
    rw [updP_at, hm]
    by_cases e : s = t
    · rw [if_pos e, if_pos (by omega)]
    · rw [if_neg e, if_neg (by omega)]; exact g3
  · have := hV.le s (by omega)
    rw [updP_ne _ _ (by omega)]; exact hn s k s1 k1
  · rw [updP_ne _ _ (by omega), updP_ne _ _ (by omega)]; exact hh j hj
  · rw [updP_ne _ _ (by omega), updP_ne _ _ (by omega), updP_ne _ _ (by omega)]; exact hw k hk
theorem RR_dead {C : Ch} {A : Nat → Int} {B t : Nat} {m' : Int} {b : Bool} (hV : VB C) (h : RR C A B) (ht : t < 8) (hm : ∀ s, inS m' s = if s = t then b else inS (C 0 12) s) : RR (upd2 C 0 12 m') (updP A (B + 6 + 8 * t + 6) (b2i b)) B := by
  obtain ⟨⟨f0, f1, f2, f3, f5⟩, hs, hn, hh, hw⟩ := h
  have n8 := hV.n
  have w8 := hV.w
  have k : ∀ i, i ≠ 12 → upd2 C 0 12 m' 0 i = C 0 i := fun i hi => upd2_k _ _ (by omega)
  simp (disch := decide) only [RR, RRs, upd2_c, k 8 (by omega), k 9 (by omega), k 10 (by omega), k 11 (by omega), k 13 (by omega), k 14 (by omega), k 15 (by omega), upd2_same]
  refine ⟨⟨by rw [updP_ne _ _ (by omega)]; exact f0, by rw [updP_ne _ _ (by omega)]; exact f1, by rw [updP_ne _ _ (by omega)]; exact f2, by rw [updP_ne _ _ (by omega)]; exact f3, by rw [updP_ne _ _ (by omega)]; exact f5⟩, fun s s1 => ?_, fun s k s1 k1 => ?_, fun j hj => ?_, fun k hk => ?_⟩
  · obtain ⟨g0, g1, g2, g3, g4, g5, g6⟩ := hs s s1
    refine ⟨by rw [updP_ne _ _ (by omega)]; exact g0, by rw [updP_ne _ _ (by omega)]; exact g1, by rw [updP_ne _ _ (by omega)]; exact g2, by rw [updP_ne _ _ (by omega)]; exact g3, by rw [updP_ne _ _ (by omega)]; exact g4, by rw [updP_ne _ _ (by omega)]; exact g5, ?_⟩
    rw [updP_at, hm]
    by_cases e : s = t
    · rw [if_pos e, if_pos (by omega)]
    · rw [if_neg e, if_neg (by omega)]; exact g6
  · have := hV.le s (by omega)
    rw [updP_ne _ _ (by omega)]; exact hn s k s1 k1
  · rw [updP_ne _ _ (by omega), updP_ne _ _ (by omega)]; exact hh j hj
  · rw [updP_ne _ _ (by omega), updP_ne _ _ (by omega), updP_ne _ _ (by omega)]; exact hw k hk
/-- another row of those that wait -/
theorem RR_w {C C' : Ch} {A A' : Nat → Int} {B : Nat} (hV : VB C) (h : RR C A B) (ec : ∀ c, c ≠ 8 ∧ c ≠ 9 ∧ c ≠ 10 ∧ c ≠ 11 → C' c = C c) (e : ∀ j, B ≤ j → j < B + 214 → j ≠ B + 5 → A' j = A j) (e5 : A' (B + 5) = C' 8 3) (ew : ∀ k : Nat, (k : Int) < C' 8 3 → A' (B + 214 + 3 * k) = C' 9 k ∧ A' (B + 214 + 3 * k + 1) = C' 10 k ∧ A' (B + 214 + 3 * k + 2) = C' 11 k) : RR C' A' B := by
  obtain ⟨⟨f0, f1, f2, f3, f5⟩, hs, hn, hh, hw⟩ := h
  have n8 := hV.n
  simp only [RR, RRs, ec 0 (by omega), ec 2 (by omega), ec 3 (by omega), ec 4 (by omega), ec 5 (by omega), ec 6 (by omega), ec 7 (by omega)]
  refine ⟨⟨by rw [e _ (by omega) (by omega) (by omega)]; exact f0, by rw [e _ (by omega) (by omega) (by omega)]; exact f1, by rw [e _ (by omega) (by omega) (by omega)]; exact f2, by rw [e _ (by omega) (by omega) (by omega)]; exact f3, e5⟩, fun s s1 => ?_, fun s k s1 k1 => ?_, fun i hi => ?_, ew⟩
  · obtain ⟨g0, g1, g2, g3, g4, g5, g6⟩ := hs s s1
    exact ⟨by rw [e _ (by omega) (by omega) (by omega)]; exact g0, by rw [e _ (by omega) (by omega) (by omega)]; exact g1, by rw [e _ (by omega) (by omega) (by omega)]; exact g2, by rw [e _ (by omega) (by omega) (by omega)]; exact g3, by rw [e _ (by omega) (by omega) (by omega)]; exact g4, by rw [e _ (by omega) (by omega) (by omega)]; exact g5, by rw [e _ (by omega) (by omega) (by omega)]; exact g6⟩
  · have := hV.le s (by omega)
    rw [e _ (by omega) (by omega) (by omega)]; exact hn s k s1 k1
  · rw [e _ (by omega) (by omega) (by omega), e _ (by omega) (by omega) (by omega)]; exact hh i hi
