/-- a beginning that has no end yet -/
def inSt (D : Ch) (i : Nat) : Prop := ∃ k : Nat, (k : Int) < D 0 2 ∧ D 1 k = (i : Int)
/-- years that are being read, for n singers: D the reader, Y what has been read -/
def YI (D Y : Ch) (n : Int) : Prop :=
  (∀ k : Nat, (k : Int) < D 0 2 → ∃ s : Nat, D 1 k = s ∧ (s : Int) < Y 0 6 ∧ opn Y s) ∧
  (∀ j k : Nat, j < k → (k : Int) < D 0 2 → D 1 j < D 1 k) ∧
  (∀ i : Nat, (i : Int) < Y 0 6 → Y 1 i = 20 → ∃ o : Nat, Y 6 i = o ∧ o < i ∧ opn Y o ∧ Y 6 o = i ∧ ¬ inSt D o) ∧
  (∀ i : Nat, (i : Int) < Y 0 6 → opn Y i → ¬ inSt D i → ∃ p : Nat, Y 6 i = p ∧ i < p ∧ (p : Int) < Y 0 6 ∧ Y 1 p = 20 ∧ Y 6 p = i) ∧
  (∀ a b : Nat, (a : Int) < Y 0 6 → (b : Int) < Y 0 6 → opn Y a → opn Y b → ¬ inSt D a → a < b → (b : Int) < Y 6 a → ¬ inSt D b ∧ Y 6 b < Y 6 a) ∧
  ∀ i : Nat, (i : Int) < Y 0 6 → YPi Y n i
theorem YI.fin {D Y : Ch} {n : Int} (h : YI D Y n) (h0 : D 0 2 = 0) : YP Y n := by
  have no : ∀ i, ¬ inSt D i := fun i ⟨k, k1, _⟩ => by rw [h0] at k1; omega
  obtain ⟨h1, h2, h3, h4, h5, h6⟩ := h
  refine ⟨⟨fun i hi hk => ?_, fun i hi hk => h4 i hi hk (no i), fun a b ha hb oa ob ab hb2 => (h5 a b ha hb oa ob (no a) ab hb2).2⟩, h6⟩
  obtain ⟨o, o1, o2, o3, o4, _⟩ := h3 i hi hk
  exact ⟨o, o1, o2, o3, o4⟩
theorem YPi.cg {Y Y' : Ch} {n : Int} {i : Nat} (h : YPi Y n i) (e : ∀ c, 1 ≤ c → c ≤ 5 → Y' c i = Y c i) : YPi Y' n i := by
  unfold YPi YT YQ at h ⊢
  rw [e 1 (by omega) (by omega), e 2 (by omega) (by omega), e 3 (by omega) (by omega), e 4 (by omega) (by omega)]
  exact h
theorem opn.cg {Y Y' : Ch} {i : Nat} (e : Y' 1 i = Y 1 i) : opn Y' i ↔ opn Y i := by
  unfold opn
  rw [e]
theorem YI_step {D Y D' Y' : Ch} {n : Int} {sp m : Nat} (h : YI D Y n) (hs : Y 0 6 = sp) (hm : D 0 2 = m) (hs' : Y' 0 6 = (sp : Int) + 1) (hc : ∀ c i, 1 ≤ c → i < sp → Y' c i = Y c i) (h20 : Y' 1 sp ≠ 20) (hp : YPi Y' n sp) (hD : (opn Y' sp ∧ D' 0 2 = (m : Int) + 1 ∧ D' 1 m = sp ∧ ∀ k, k ≠ m → D' 1 k = D 1 k) ∨ (¬ opn Y' sp ∧ D' = D)) : YI D' Y' n := by
  obtain ⟨h1, h2, h3, h4, h5, h6⟩ := h
  rw [hs] at h1 h3 h4 h5 h6
  rw [hm] at h1 h2
  have op : ∀ i, i < sp → (opn Y' i ↔ opn Y i) := fun i hi => opn.cg (hc 1 i (by omega) hi)
  have st : ∀ i, i < sp → (inSt D' i ↔ inSt D i) := by
    intro i hi
    rcases hD with ⟨_, d1, d2, d3⟩ | ⟨_, d1⟩
    · refine ⟨fun ⟨k, k1, k2⟩ => ?_, fun ⟨k, k1, k2⟩ => ?_⟩
      · by_cases q : k = m
        · rw [q, d2] at k2; omega
        · exact ⟨k, by rw [hm]; omega, by rw [← d3 k q]; exact k2⟩
      · rw [hm] at k1
        exact ⟨k, by rw [d1]; omega, by rw [d3 k (by omega)]; exact k2⟩
    · rw [d1]
  have top : opn Y' sp → inSt D' sp := by
    intro q
    rcases hD with ⟨_, d1, d2, d3⟩ | ⟨d0, _⟩
    · exact ⟨m, by rw [d1]; omega, d2⟩
    · exact absurd q d0
  unfold YI
  rw [hs']
  refine ⟨fun k hk => ?_, fun j k jk hk => ?_, fun i hi hk => ?_, fun i hi ho hn => ?_, fun a b ha hb oa ob na ab bl => ?_, fun i hi => ?_⟩
  · rcases hD with ⟨d0, d1, d2, d3⟩ | ⟨d0, d1⟩
    · by_cases q : k = m
      · exact ⟨sp, by rw [q]; exact d2, (by omega), d0⟩
      · obtain ⟨s, s1, s2, s3⟩ := h1 k (by omega)
        exact ⟨s, by rw [d3 k q]; exact s1, (by omega), (op s (by omega)).mpr s3⟩
    · rw [d1, hm] at hk
      obtain ⟨s, s1, s2, s3⟩ := h1 k hk
      exact ⟨s, by rw [d1]; exact s1, (by omega), (op s (by omega)).mpr s3⟩
  · rcases hD with ⟨d0, d1, d2, d3⟩ | ⟨d0, d1⟩
    · by_cases q : k = m
      · obtain ⟨s, s1, s2, s3⟩ := h1 j (by omega)
        rw [q, d2, d3 j (by omega), s1]
        exact s2
      · rw [d3 k q, d3 j (by omega)]
        exact h2 j k jk (by omega)
    · rw [d1, hm] at hk
      rw [d1]
      exact h2 j k jk hk
  · have ne : i ≠ sp := fun q => h20 (by rw [← q]; exact hk)
    rw [hc 1 i (by omega) (by omega)] at hk
    obtain ⟨o, o1, o2, o3, o4, o5⟩ := h3 i (by omega) hk
    exact ⟨o, by rw [hc 6 i (by omega) (by omega)]; exact o1, o2, (op o (by omega)).mpr o3, by rw [hc 6 o (by omega) (by omega)]; exact o4, fun q => o5 ((st o (by omega)).mp q)⟩
  · have ne : i ≠ sp := fun q => hn (by rw [q]; exact top (by rw [← q]; exact ho))
    obtain ⟨p, p1, p2, p3, p4, p5⟩ := h4 i (by omega) ((op i (by omega)).mp ho) (fun q => hn ((st i (by omega)).mpr q))
    exact ⟨p, by rw [hc 6 i (by omega) (by omega)]; exact p1, p2, (by omega), by rw [hc 1 p (by omega) (by omega)]; exact p4, by rw [hc 6 p (by omega) (by omega)]; exact p5⟩
  · have ne : a ≠ sp := fun q => na (by rw [q]; exact top (by rw [← q]; exact oa))
    have oa' := (op a (by omega)).mp oa
    have na' : ¬ inSt D a := fun q => na ((st a (by omega)).mpr q)
    obtain ⟨p, p1, p2, p3, p4, p5⟩ := h4 a (by omega) oa' na'
    rw [hc 6 a (by omega) (by omega)] at bl ⊢
    have bs : b < sp := (by omega)
    obtain ⟨r1, r2⟩ := h5 a b (by omega) (by omega) oa' ((op b bs).mp ob) na' ab bl
    exact ⟨fun q => r1 ((st b bs).mp q), by rw [hc 6 b (by omega) (by omega)]; exact r2⟩
  · by_cases q : i = sp
    · rw [q]; exact hp
    · exact (h6 i (by omega)).cg (fun c c1 c2 => hc c i (by omega) (by omega))
theorem addEnd_c (Y : Ch) {b sp : Nat} (hs : Y 0 6 = sp) (hb : b < sp) : addEndY Y b 0 6 = (sp : Int) + 1 ∧ addEndY Y b 1 sp = 20 ∧ addEndY Y b 6 sp = b ∧ addEndY Y b 6 b = sp ∧ (∀ i, i ≠ sp → addEndY Y b 1 i = Y 1 i) ∧ (∀ i, i ≠ sp → i ≠ b → addEndY Y b 6 i = Y 6 i) ∧ (∀ c, 2 ≤ c → c ≤ 5 → addEndY Y b c = Y c) := by
  have tn : (Y 0 6).toNat = sp := by rw [hs]; rfl
  unfold addEndY
  rw [tn, hs]
  refine ⟨upd2_same _ _ _ _, ?_, ?_, ?_, fun i hi => ?_, fun i hi hb2 => ?_, fun c c1 c2 => ?_⟩
  · rw [upd2_c _ _ (by decide), upd2_c _ _ (by decide), upd2_c _ _ (by decide), upd2_same]
  · rw [upd2_c _ _ (by decide), upd2_k _ _ (by omega), upd2_same]
  · rw [upd2_c _ _ (by decide), upd2_same]
  · rw [upd2_c _ _ (by decide), upd2_c _ _ (by decide), upd2_c _ _ (by decide), upd2_k _ _ hi]
  · rw [upd2_c _ _ (by decide), upd2_k _ _ hb2, upd2_k _ _ hi, upd2_c _ _ (by decide)]
  · rw [upd2_c _ _ (by omega), upd2_c _ _ (by omega), upd2_c _ _ (by omega), upd2_c _ _ (by omega)]
theorem YI_end {D Y D' : Ch} {n : Int} {sp m s : Nat} (h : YI D Y n) (hs : Y 0 6 = sp) (hm : D 0 2 = (m : Int) + 1) (hb : D 1 m = s) (d1 : D' 0 2 = m) (d2 : D' 1 = D 1) : YI D' (addEndY Y s) n := by
  obtain ⟨h1, h2, h3, h4, h5, h6⟩ := h
  rw [hs] at h1 h3 h4 h5 h6
  rw [hm] at h1 h2
  obtain ⟨s', e1, sl, so⟩ := h1 m (by omega)
  have es : s' = s := (by omega)
  subst es
  have ss : s' < sp := (by omega)
  obtain ⟨a1, a2, a3, a4, a5, a6, a7⟩ := addEnd_c Y hs ss
  have op : ∀ i, i < sp → (opn (addEndY Y s') i ↔ opn Y i) := fun i hi => opn.cg (a5 i (by omega))
  have sIn : inSt D s' := ⟨m, by rw [hm]; omega, hb⟩
  have st : ∀ i, i ≠ s' → (inSt D' i ↔ inSt D i) := by
    intro i hi
    refine ⟨fun ⟨k, k1, k2⟩ => ⟨k, by rw [d1] at k1; rw [hm]; omega, by rw [d2] at k2; exact k2⟩, fun ⟨k, k1, k2⟩ => ?_⟩
    rw [hm] at k1
    have : k ≠ m := fun q => by rw [q, hb] at k2; omega
    exact ⟨k, by rw [d1]; omega, by rw [d2]; exact k2⟩
  have sOut : ¬ inSt D' s' := fun ⟨k, k1, k2⟩ => by
    rw [d1] at k1
    rw [d2] at k2
    have := h2 k m (by omega) (by omega)
    omega
  have o20 : ∀ i, opn Y i → Y 1 i ≠ 20 := fun i hi => by unfold opn at hi; omega
  have nsp : ∀ i : Nat, (i : Int) < (sp : Int) + 1 → opn (addEndY Y s') i → i < sp := by
    intro i hi ho
    by_cases q : i = sp
    · rw [q] at ho
      unfold opn at ho
      omega
    · omega
  unfold YI
  rw [a1]
  refine ⟨fun k hk => ?_, fun j k jk hk => ?_, fun i hi hk => ?_, fun i hi ho hn => ?_, fun a b ha hb2 oa ob na ab bl => ?_, fun i hi => ?_⟩
  · rw [d1] at hk
    obtain ⟨t, t1, t2, t3⟩ := h1 k (by omega)
    exact ⟨t, by rw [d2]; exact t1, (by omega), (op t (by omega)).mpr t3⟩
  · rw [d1] at hk
    rw [d2]
    exact h2 j k jk (by omega)
  · by_cases q : i = sp
    · subst q
      exact ⟨s', a3, ss, (op s' ss).mpr so, a4, sOut⟩
    · rw [a5 i q] at hk
      obtain ⟨o, o1, o2, o3, o4, o5⟩ := h3 i (by omega) hk
      have os : o ≠ s' := fun q => o5 (by rw [q]; exact sIn)
      have is : i ≠ s' := fun q => o20 s' so (by rw [← q]; exact hk)
      exact ⟨o, by rw [a6 i q is]; exact o1, o2, (op o (by omega)).mpr o3, by rw [a6 o (by omega) os]; exact o4, fun q => o5 ((st o os).mp q)⟩
  · have il := nsp i hi ho
    by_cases q : i = s'
    · subst q
      exact ⟨sp, a4, ss, (by omega), a2, a3⟩
    · obtain ⟨p, p1, p2, p3, p4, p5⟩ := h4 i (by omega) ((op i il).mp ho) (fun r => hn ((st i q).mpr r))
      have ps : p ≠ s' := fun r => o20 s' so (by rw [← r]; exact p4)
      exact ⟨p, by rw [a6 i (by omega) q]; exact p1, p2, (by omega), by rw [a5 p (by omega)]; exact p4, by rw [a6 p (by omega) ps]; exact p5⟩
  · have al := nsp a ha oa
    have bL := nsp b hb2 ob
    have ob' := (op b bL).mp ob
    by_cases q : a = s'
    · subst q
      rw [a4] at bl ⊢
      have bo : ¬ inSt D' b := fun ⟨k, k1, k2⟩ => by
        rw [d1] at k1
        rw [d2] at k2
        have := h2 k m (by omega) (by omega)
        omega
      have bo' : ¬ inSt D b := fun r => bo ((st b (by omega)).mpr r)
      obtain ⟨p, p1, p2, p3, p4, p5⟩ := h4 b (by omega) ob' bo'
      exact ⟨bo, by rw [a6 b (by omega) (by omega)]; omega⟩
    · have na' : ¬ inSt D a := fun r => na ((st a q).mpr r)
      rw [a6 a (by omega) q] at bl ⊢
      obtain ⟨r1, r2⟩ := h5 a b (by omega) (by omega) ((op a al).mp oa) ob' na' ab bl
      have bs : b ≠ s' := fun r => r1 (by rw [r]; exact sIn)
      exact ⟨fun r => r1 ((st b bs).mp r), by rw [a6 b (by omega) bs]; exact r2⟩
  · by_cases q : i = sp
    · subst q
      unfold YPi YT YQ
      rw [a2]
      exact ⟨⟨fun q => absurd q (by omega), fun q => absurd q (by omega), fun q => absurd q (by omega)⟩, fun q => absurd q (by omega), fun q => absurd q (by omega), fun q => absurd q (by omega), Or.inl (by omega)⟩
    · refine (h6 i (by omega)).cg (fun c c1 c2 => ?_)
      by_cases q1 : c = 1
      · rw [q1]; exact a5 i q
      · rw [a7 c (by omega) c2]
theorem yP_keep (X : Nat → Int) (L : Nat) (C : Ch) (sp : Nat) (c : Int32) (T Y : Ch) : (∀ e i, ¬ ((e = 2 ∨ e = 3 ∨ e = 4 ∨ e = 5) ∧ i = sp) → (yP X L C sp c T Y).2.2 e i = Y e i) := by
  intro e i q
  unfold yP
  split
  · exact upd2_nn _ (by omega)
  · split
    · exact upd2_nn _ (by omega)
    · split
      · exact upd2_nn _ (by omega)
      · split
        · rfl
        · exact upd2_nn _ (by omega)
theorem yTl_keep (X : Nat → Int) (L : Nat) (C : Ch) (sp : Nat) : ∀ (t : List Int32) (T Y : Ch) (e i : Nat), ¬ ((e = 2 ∨ e = 3 ∨ e = 4 ∨ e = 5) ∧ i = sp) → (yTl X L C sp t T Y).2.2 e i = Y e i
  | [], _, _, _, _, _ => rfl
  | c :: t, T, Y, e, i, q => by
    rw [yTl_c]
    split
    · rw [yTl_keep X L C sp t _ _ e i q]
      exact yP_keep X L C sp c T Y e i q
    · exact yP_keep X L C sp c T Y e i q
def yB (X : Nat → Int) (L : Nat) (C : Ch) (sp : Nat) (T Y : Ch) : PS := if T 0 8 = 16 then yWT X L C sp T Y else yTl X L C sp (STRB.getD (tlK (T 0 8)) []) T Y
theorem yB_keep (X : Nat → Int) (L : Nat) (C : Ch) (sp : Nat) (T Y : Ch) (e i : Nat) (q : ¬ ((1 ≤ e ∧ e ≤ 5) ∧ i = sp)) : (yB X L C sp T Y).2.2 e i = Y e i := by
  have w : (yW X L sp T Y).2.2 e i = Y e i := by
    unfold yW
    split
    · exact upd2_nn _ (by omega)
    · exact upd2_nn _ (by omega)
  unfold yB
  split
  · unfold yWT
    split
    · rw [yTl_keep X L C sp _ _ _ e i (by omega)]; exact w
    · exact w
  · exact yTl_keep X L C sp _ _ _ e i (by omega)
theorem addStep_c (Y : Ch) (v : Int) {sp : Nat} (hs : Y 0 6 = sp) : addStepY Y v 1 sp = v ∧ ∀ c i, 1 ≤ c → i ≠ sp → addStepY Y v c i = Y c i := by
  have tn : (Y 0 6).toNat = sp := by rw [hs]; rfl
  unfold addStepY
  rw [tn]
  refine ⟨by simp [upd2], fun c i c1 hi => ?_⟩
  rw [upd2_nn _ (by omega), upd2_nn _ (by omega), upd2_nn _ (by omega), upd2_nn _ (by omega), upd2_nn _ (by omega), upd2_nn _ (by omega)]
theorem addStep_6 (Y : Ch) (v : Int) : addStepY Y v 6 = Y 6 := by
  unfold addStepY
  rw [upd2_c _ _ (by decide), upd2_c _ _ (by decide), upd2_c _ _ (by decide), upd2_c _ _ (by decide), upd2_c _ _ (by decide), upd2_c _ _ (by decide)]
theorem yS1_B {X : Nat → Int} {L sp : Nat} {C D T Y : Ch} (hs : Y 0 6 = sp) : yS1 X L C D T Y = yS4 X L (yD1 D (T 0 8) sp) (yB X L C sp T (addStepY Y (T 0 8))) := by
  have tn : (Y 0 6).toNat = sp := by rw [hs]; rfl
  unfold yS1 yB
  rw [tn, hs]
  by_cases k : T 0 8 = 16
  · rw [if_pos k, if_pos k]
    unfold yS3 yWT
    by_cases c : (yW X L sp T (addStepY Y (T 0 8))).1 = true
    · rw [if_pos c, if_pos c]
    · rw [if_neg c, if_neg c]
      unfold yS4
      rw [if_neg (by simp)]
  · rw [if_neg k, if_neg k]
    unfold yS3
    rw [if_pos rfl]
    dsimp only
    rw [(addStep_c Y (T 0 8) hs).1]
