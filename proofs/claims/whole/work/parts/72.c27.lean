theorem LK.b {T C : Ch} {n : Nat} (h : LK T C n) (hV : VB C) (n8 : n ≤ 8) : ∀ s, s < n → -60000 ≤ T 1 s ∧ T 1 s ≤ 60000 := by
  intro s hs
  rw [(h.2.2 s hs).1]
  exact balC_rng hV (by omega)
theorem LK.n {T C : Ch} {n : Nat} (h : LK T C n) (n8 : n ≤ 8) : ∀ s, s < n → 0 ≤ T 2 s ∧ T 2 s < 256 := by
  intro s hs
  rw [(h.2.2 s hs).2.1]
  have := msk_lt (lkN C s) n n8
  omega
theorem LK.a {T C : Ch} {n : Nat} (h : LK T C n) (n8 : n ≤ 8) : ∀ s, s < n → 0 ≤ T 3 s ∧ T 3 s < 256 := by
  intro s hs
  rw [(h.2.2 s hs).2.2]
  have := msk_lt (lkA C s) n n8
  omega
theorem c_partsQ {l : Launch} {E : EnvT} {d : Nat} {K : AV → Mem → Prop} {M : Mem} {rc n : Nat} (hd : 5 ≤ d) (hF : FC M rc) (hn : M rc 0 8 = n) (h : ∀ T T' : Ch, LK T (M rc) n → K (.int (iN (BP (T 1) n (unM (T 1) n))), 0) (stM (setR M 12 T') 0)) : CT l E d m_FN_parts [(.ref 0, 0)] M K := by
  refine CT.of pn_FN (Nat.le_of_ble_eq_true rfl) ?_
  have hV := hF.2.2
  have h8 := hV.n
  have hr := hF.2.1
  refine b_FN_parts_0 (by omega) ?_
  rw [hF.eq]
  refine ⟨hF.cl, c_look (by omega) (by omega) hV hn (fun T hT => ?_)⟩
  refine c_mostParts (by omega) hT.1 (by omega) (hT.b hV (by omega)) (fun T' _ => c_answer (by omega) ?_)
  exact h T T' hT
theorem c_askSetQ {l : Launch} {E : EnvT} {d : Nat} {K : AV → Mem → Prop} {M : Mem} {rc n : Nat} (hd : 5 ≤ d) (hF : FC M rc) (hn : M rc 0 8 = n) (h : ∀ T : Ch, LK T (M rc) n → K (.int (iN (laF (T 3) n (2 ^ n - 1) (2 ^ n - 1) : Nat)), 0) (stM (setR M 12 T) 0)) : CT l E d m_FN_askSet [(.ref 0, 0)] M K := by
  refine CT.of pn_FN (Nat.le_of_ble_eq_true rfl) ?_
  have hV := hF.2.2
  have h8 := hV.n
  have hr := hF.2.1
  refine b_FN_askSet_0 (by omega) ?_
  rw [hF.eq]
  refine ⟨hF.cl, c_look (by omega) (by omega) hV hn (fun T hT => ?_)⟩
  refine c_leastAsked (n := n) (by omega) (by rw [setR_same]; exact hT.1) (by omega) (by rw [setR_same]; exact hT.a (by omega)) ?_
  rw [setR_same]
  exact c_answer (by omega) (h T hT)
theorem c_chainQ {l : Launch} {E : EnvT} {d : Nat} {K : AV → Mem → Prop} {M : Mem} {rc n : Nat} (hd : 5 ≤ d) (hF : FC M rc) (hn : M rc 0 8 = n) (h : ∀ T T' : Ch, LK T (M rc) n → K (.int (iN (rowC (T 2) n (livM (M rc) n))), 0) (stM (setR M 12 T') 0)) : CT l E d m_FN_chain [(.ref 0, 0)] M K := by
  refine CT.of pn_FN (Nat.le_of_ble_eq_true rfl) ?_
  have hV := hF.2.2
  have h8 := hV.n
  have hr := hF.2.1
  refine b_FN_chain_0 (by omega) ?_
  rw [hF.eq]
  refine ⟨hF.cl, c_look (by omega) (by omega) hV hn (fun T hT => ?_)⟩
  refine c_longestRow (by omega) hT.1 (by omega) hT.2.1 (nAnd_lt _ (ones_lt (by omega))) (hT.n (by omega)) (fun T' _ => c_answer (by omega) ?_)
  exact h T T' hT
