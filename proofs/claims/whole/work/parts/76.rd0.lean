/-- three regions of a memory -/
def m3 (M : Mem) (a b c : Nat) (A B C : Ch) : Mem := setR (setR (setR M a A) b B) c C
def O3 (a b c : Nat) : Prop := a ≠ b ∧ a ≠ c ∧ b ≠ c ∧ 0 ≠ a ∧ 0 ≠ b ∧ 0 ≠ c
theorem m3_a (M : Mem) {a b c : Nat} (o : O3 a b c) (A B C : Ch) : m3 M a b c A B C a = A := by unfold m3; rw [setR_ne _ _ o.2.1, setR_ne _ _ o.1, setR_same]
theorem m3_b (M : Mem) {a b c : Nat} (o : O3 a b c) (A B C : Ch) : m3 M a b c A B C b = B := by unfold m3; rw [setR_ne _ _ o.2.2.1, setR_same]
theorem m3_c (M : Mem) {a b c : Nat} (A B C : Ch) : m3 M a b c A B C c = C := by unfold m3; rw [setR_same]
theorem m3_o (M : Mem) {a b c q : Nat} (A B C : Ch) (h1 : q ≠ a) (h2 : q ≠ b) (h3 : q ≠ c) : m3 M a b c A B C q = M q := by unfold m3; rw [setR_ne _ _ h3, setR_ne _ _ h2, setR_ne _ _ h1]
theorem m3_0 (M : Mem) {a b c : Nat} (o : O3 a b c) (A B C : Ch) : m3 M a b c A B C 0 = M 0 := m3_o M A B C o.2.2.2.1 o.2.2.2.2.1 o.2.2.2.2.2
theorem m3_sc (M : Mem) {a b c : Nat} (A B C C' : Ch) : setR (m3 M a b c A B C) c C' = m3 M a b c A B C' := setR_setR _ _ _ _
theorem setR_sw (M : Mem) {a b : Nat} (h : a ≠ b) (A B : Ch) : setR (setR M a A) b B = setR (setR M b B) a A := by
  funext q
  unfold setR
  by_cases e : q = a
  · subst e; simp [h]
  · simp [e]
theorem m3_sb (M : Mem) {a b c : Nat} (o : O3 a b c) (A B C B' : Ch) : setR (m3 M a b c A B C) b B' = m3 M a b c A B' C := by
  unfold m3
  rw [setR_sw _ (fun e => o.2.2.1 e.symm), setR_setR]
theorem m3_sa (M : Mem) {a b c : Nat} (o : O3 a b c) (A B C A' : Ch) : setR (m3 M a b c A B C) a A' = m3 M a b c A' B C := by
  unfold m3
  rw [setR_sw _ (fun e => o.2.1 e.symm), setR_sw _ (fun e => o.1 e.symm), setR_setR]
theorem m3_ua (M : Mem) {a b c : Nat} (o : O3 a b c) (A B C : Ch) (i k : Nat) (v : Int) : upd3 (m3 M a b c A B C) a i k v = m3 M a b c (upd2 A i k v) B C := by rw [upd3_setR, m3_a M o, m3_sa M o]
theorem m3_ub (M : Mem) {a b c : Nat} (o : O3 a b c) (A B C : Ch) (i k : Nat) (v : Int) : upd3 (m3 M a b c A B C) b i k v = m3 M a b c A (upd2 B i k v) C := by rw [upd3_setR, m3_b M o, m3_sb M o]
theorem m3_uc (M : Mem) {a b c : Nat} (A B C : Ch) (i k : Nat) (v : Int) : upd3 (m3 M a b c A B C) c i k v = m3 M a b c A B (upd2 C i k v) := by rw [upd3_setR, m3_c M, m3_sc M]
theorem m3_id (M : Mem) {a b c : Nat} (o : O3 a b c) : m3 M a b c (M a) (M b) (M c) = M := by
  unfold m3
  rw [setR_self, setR_self, setR_self]
def XB (M : Mem) : Prop := ∀ j, j < 900 → -128 ≤ M 0 2 j ∧ M 0 2 j ≤ 127
theorem c_advB {l : Launch} {E : EnvT} {d : Nat} {K : AV → Mem → Prop} {M : Mem} {a b c : Nat} {A T C : Ch} {L : Nat} (hd : 6 ≤ d) (o : O3 a b c) (hT : TI T L) (L9 : L ≤ 900) (hX : XB M) (h : K (.null, 0) (m3 M a b c A (advT (M 0 2) L T) C)) : CT l E d m_Tokens_advance [(.ref b, 4)] (m3 M a b c A T C) K := by
  have e := setR_self (m3 M a b c A T C) b
  rw [m3_b M o] at e
  rw [← e]
  refine c_advance (L := L) hd o.2.2.2.2.1 hT L9 (by rw [m3_0 M o]; exact hX) ?_
  rw [m3_0 M o, m3_sb M o]
  exact h
theorem c_rfB {l : Launch} {E : EnvT} {d : Nat} {K : AV → Mem → Prop} {M : Mem} {a b c : Nat} {A T C : Ch} {L : Nat} {w : Int} (hd : 1 ≤ d) (o : O3 a b c) (hT : TI T L) (w1 : 0 ≤ w) (w2 : w ≤ 9) (h : K (.int (iN 0), 0) (m3 M a b c A (rfT T w) C)) : CT l E d m_Tokens_refuse [(.ref b, 4), (.int (iN w), 0)] (m3 M a b c A T C) K := by
  have e := setR_self (m3 M a b c A T C) b
  rw [m3_b M o] at e
  rw [← e]
  refine c_tRefuse hd hT w1 w2 ?_
  rw [m3_sb M o]
  exact h
theorem c_nmB {l : Launch} {E : EnvT} {d : Nat} {K : AV → Mem → Prop} {M : Mem} {a b c : Nat} {A T C : Ch} {L : Nat} (hd : 2 ≤ d) (o : O3 a b c) (hT : TI T L) (h : K (.int (iN (b2i (nmT T).1)), 0) (m3 M a b c A (nmT T).2 C)) : CT l E d m_Tokens_standsName [(.ref b, 4)] (m3 M a b c A T C) K := by
  have e := setR_self (m3 M a b c A T C) b
  rw [m3_b M o] at e
  rw [← e]
  refine c_standsName hd hT ?_
  rw [m3_sb M o]
  exact h
theorem c_ssB {l : Launch} {E : EnvT} {d : Nat} {K : AV → Mem → Prop} {M : Mem} {a b c : Nat} {A T C : Ch} {L : Nat} {s : Int} (hd : 2 ≤ d) (o : O3 a b c) (hT : TI T L) (s1 : 0 ≤ s) (s2 : s ≤ 127) (h : K (.int (iN (b2i (stSg T s).1)), 0) (m3 M a b c A (stSg T s).2 C)) : CT l E d m_Tokens_standsSign [(.ref b, 4), (.int (iN s), 0)] (m3 M a b c A T C) K := by
  have e := setR_self (m3 M a b c A T C) b
  rw [m3_b M o] at e
  rw [← e]
  refine c_standsSign hd hT s1 s2 ?_
  rw [m3_sb M o]
  exact h
theorem c_snB {l : Launch} {E : EnvT} {d : Nat} {K : AV → Mem → Prop} {M : Mem} {a b c : Nat} {A T C : Ch} {L : Nat} {x y : Int} (hd : 2 ≤ d) (o : O3 a b c) (hT : TI T L) (s1 : 0 ≤ x) (s2 : x ≤ 9999) (s3 : 0 ≤ y) (s4 : y ≤ 9999) (h : K (.int (iN (b2i (nuT T x y).1)), 0) (m3 M a b c A (nuT T x y).2 C)) : CT l E d m_Tokens_standsNumber [(.ref b, 4), (.int (iN x), 0), (.int (iN y), 0)] (m3 M a b c A T C) K := by
  have e := setR_self (m3 M a b c A T C) b
  rw [m3_b M o] at e
  rw [← e]
  refine c_standsNumber hd hT s1 s2 s3 s4 ?_
  rw [m3_sb M o]
  exact h
theorem c_tsB {l : Launch} {E : EnvT} {d : Nat} {K : AV → Mem → Prop} {M : Mem} {a b c : Nat} {A T C : Ch} {L : Nat} {s : Int} (hd : 7 ≤ d) (o : O3 a b c) (hT : TI T L) (L9 : L ≤ 900) (hX : XB M) (s1 : 0 ≤ s) (s2 : s ≤ 127) (h : K (.int (iN (b2i (stSg (advT (M 0 2) L T) s).1)), 0) (m3 M a b c A (stSg (advT (M 0 2) L T) s).2 C)) : CT l E d m_Tokens_takeSign [(.ref b, 4), (.int (iN s), 0)] (m3 M a b c A T C) K := by
  have e := setR_self (m3 M a b c A T C) b
  rw [m3_b M o] at e
  rw [← e]
  refine c_takeSign (L := L) hd o.2.2.2.2.1 hT L9 (by rw [m3_0 M o]; exact hX) s1 s2 ?_
  rw [m3_0 M o, m3_sb M o]
  exact h
theorem c_tnB {l : Launch} {E : EnvT} {d : Nat} {K : AV → Mem → Prop} {M : Mem} {a b c : Nat} {A T C : Ch} {L : Nat} {x y : Int} (hd : 7 ≤ d) (o : O3 a b c) (hT : TI T L) (L9 : L ≤ 900) (hX : XB M) (s1 : 0 ≤ x) (s2 : x ≤ 9999) (s3 : 0 ≤ y) (s4 : y ≤ 9999) (h : K (.int (iN (b2i (nuT (advT (M 0 2) L T) x y).1)), 0) (m3 M a b c A (nuT (advT (M 0 2) L T) x y).2 C)) : CT l E d m_Tokens_takeNumber [(.ref b, 4), (.int (iN x), 0), (.int (iN y), 0)] (m3 M a b c A T C) K := by
  have e := setR_self (m3 M a b c A T C) b
  rw [m3_b M o] at e
  rw [← e]
  refine c_takeNumber (L := L) hd o.2.2.2.2.1 hT L9 (by rw [m3_0 M o]; exact hX) s1 s2 s3 s4 ?_
  rw [m3_0 M o, m3_sb M o]
  exact h
theorem c_tkB {l : Launch} {E : EnvT} {d : Nat} {K : AV → Mem → Prop} {M : Mem} {a b c : Nat} {A T C : Ch} {L : Nat} {s : Int} (hd : 7 ≤ d) (o : O3 a b c) (hT : TI T L) (L9 : L ≤ 900) (hX : XB M) (s1 : 0 ≤ s) (s2 : s ≤ 127) (h : K (.int (iN (b2i (kwT (advT (M 0 2) L T) s).1)), 0) (m3 M a b c A (kwT (advT (M 0 2) L T) s).2 C)) : CT l E d m_Tokens_takeKeyword [(.ref b, 4), (.int (iN s), 0)] (m3 M a b c A T C) K := by
  have e := setR_self (m3 M a b c A T C) b
  rw [m3_b M o] at e
  rw [← e]
  refine c_takeKeyword (L := L) hd o.2.2.2.2.1 hT L9 (by rw [m3_0 M o]; exact hX) s1 s2 ?_
  rw [m3_0 M o, m3_sb M o]
  exact h
theorem c_tcB {l : Launch} {E : EnvT} {d : Nat} {K : AV → Mem → Prop} {M : Mem} {a b c : Nat} {A T C : Ch} {L : Nat} (hd : 7 ≤ d) (o : O3 a b c) (hT : TI T L) (L9 : L ≤ 900) (hX : XB M) (h : K (.int (iN (b2i (cmT (advT (M 0 2) L T)).1)), 0) (m3 M a b c A (cmT (advT (M 0 2) L T)).2 C)) : CT l E d m_Tokens_takeCompares [(.ref b, 4)] (m3 M a b c A T C) K := by
  have e := setR_self (m3 M a b c A T C) b
  rw [m3_b M o] at e
  rw [← e]
  refine c_takeCompares (L := L) hd o.2.2.2.2.1 hT L9 (by rw [m3_0 M o]; exact hX) ?_
  rw [m3_0 M o, m3_sb M o]
  exact h
theorem c_sgB {l : Launch} {E : EnvT} {d : Nat} {K : AV → Mem → Prop} {M : Mem} {a b c rc : Nat} {A T C : Ch} {L : Nat} {u : Int} (hd : 7 ≤ d) (o : O3 a b c) (hT : TI T L) (L9 : L ≤ 900) (hX : XB M) (hc : rc ≠ b) (hV : VB (m3 M a b c A T C rc)) (u1 : -1 ≤ u) (u2 : u ≤ 100) (h : K (.int (iN (sgT (advT (M 0 2) L T) (m3 M a b c A T C rc) u).1), 0) (m3 M a b c A (sgT (advT (M 0 2) L T) (m3 M a b c A T C rc) u).2 C)) : CT l E d m_Tokens_takeSinger [(.ref b, 4), (.ref rc, 11), (.int (iN u), 0)] (m3 M a b c A T C) K := by
  have e := setR_self (m3 M a b c A T C) b
  rw [m3_b M o] at e
  have := c_takeSinger (l := l) (E := E) (K := K) (M := m3 M a b c A T C) (T := T) (L := L) (u := u) hd o.2.2.2.2.1 hT L9 (by rw [m3_0 M o]; exact hX) hc hV u1 u2 (by rw [m3_0 M o, m3_sb M o]; exact h)
  rw [e] at this
  exact this
theorem nm_TI {T : Ch} {L : Nat} (hT : TI T L) : TI (nmT T).2 L := by unfold nmT; split; exact hT; exact hT.rf (by omega) (by omega)
theorem ss_TI {T : Ch} {L : Nat} (hT : TI T L) (s : Int) : TI (stSg T s).2 L := by unfold stSg; split; exact hT; exact hT.rf (by omega) (by omega)
theorem cm_TI {T : Ch} {L : Nat} (hT : TI T L) : TI (cmT T).2 L := by unfold cmT; split; exact hT; exact hT.rf (by omega) (by omega)
theorem kw_TI {T : Ch} {L : Nat} (hT : TI T L) (s : Int) : TI (kwT T s).2 L := by unfold kwT; split; exact hT; exact hT.rf (by omega) (by omega)
theorem nu_TI {T : Ch} {L : Nat} (hT : TI T L) (x y : Int) : TI (nuT T x y).2 L := by
  unfold nuT
  split
  · split
    · exact hT
    · exact hT.rf (by omega) (by omega)
  · exact hT.rf (by omega) (by omega)
theorem sg_TI {T C : Ch} {L : Nat} (hT : TI T L) (u : Int) : TI (sgT T C u).2 L := by
  unfold sgT
  split
  · split
    · exact hT.rf (by omega) (by omega)
    · split
      · exact hT.rf (by omega) (by omega)
      · exact hT
  · exact nm_TI hT
theorem sg_rng {T C : Ch} (hV : VB C) (u : Int) : -1 ≤ (sgT T C u).1 ∧ (sgT T C u).1 < 8 ∧ (sgT T C u).1 < max 0 (C 0 8) := by
  have hn := hV.n
  have f := findC_rng hV (lI (T 0 9))
  unfold sgT
  split
  · split
    · exact ⟨by show (-1 : Int) ≤ -1; omega, by show (-1 : Int) < 8; omega, by show (-1 : Int) < _; omega⟩
    · split
      · exact ⟨by show (-1 : Int) ≤ -1; omega, by show (-1 : Int) < 8; omega, by show (-1 : Int) < _; omega⟩
      · exact ⟨f.1, by show findC C (lI (T 0 9)) < 8; omega, by show findC C (lI (T 0 9)) < _; omega⟩
  · exact ⟨by show (-1 : Int) ≤ -1; omega, by show (-1 : Int) < 8; omega, by show (-1 : Int) < _; omega⟩
theorem nu_ok {T : Ch} {x y : Int} (h : (nuT T x y).1 = true) : (nuT T x y).2 = T ∧ T 0 3 = 2 ∧ x ≤ T 0 5 ∧ T 0 5 ≤ y := by
  unfold nuT at h ⊢
  split at h
  · rename_i c
    split at h
    · rename_i c2
      rw [if_pos c, if_pos c2]
      exact ⟨rfl, c, c2⟩
    · cases h
  · cases h
