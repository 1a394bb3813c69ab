theorem trR {k : Nat} (h : k < 4) : ([(20, 39), (21, 39), (22, 39), (23, 39)].getD k (0, 0)).1 = 20 + k := by
  have : k = 0 ∨ k = 1 ∨ k = 2 ∨ k = 3 := (by omega)
  rcases this with rfl | rfl | rfl | rfl <;> rfl
def TB (T : Ch) : Prop := (0 ≤ T 0 1 ∧ T 0 1 ≤ 3) ∧ (-1 ≤ T 0 2 ∧ T 0 2 ≤ 60) ∧ ∀ k, k < 60 → -9223372036854775808 ≤ T 1 k ∧ T 1 k < 9223372036854775808
def FT (M : Mem) : Prop := ∀ j, j < 4 → TB (M (20 + j))
theorem FT.at {M : Mem} (h : FT M) {j : Nat} (hj : j < 4) : TB (M (20 + j)) := h j hj
theorem c_trayQ {l : Launch} {E : EnvT} {d : Nat} {K : AV → Mem → Prop} {M : Mem} {a s n : Int} (hd : 3 ≤ d) (a1 : -2147483648 ≤ a) (a2 : a < 2147483648) (s1 : -2147483648 ≤ s) (s2 : s < 2147483648) (n1 : -2147483648 ≤ n) (n2 : n < 2147483648) (hn : ¬ (0 ≤ a ∧ a ≤ 3 ∧ 0 ≤ s ∧ s ≤ 3 ∧ 0 ≤ n ∧ n ≤ 60) → K (.int (iN 0), 0) (stM M 1)) (hy : 0 ≤ a → a ≤ 3 → 0 ≤ s → s ≤ 3 → 0 ≤ n → n ≤ 60 → K (.int (iN 1), 0) (stM (setR M (20 + a.toNat) (upd2 (upd2 (fillC (M (20 + a.toNat)) 1 0 60) 0 1 s) 0 2 n)) 0)) : CT l E d m_FN_tray [(.ref 0, 0), (.int (iN a), 0), (.int (iN s), 0), (.int (iN n), 0)] M K := by
  refine CT.of pn_FN (Nat.le_of_ble_eq_true rfl) ?_
  refine b_FN_tray_0 (by omega) (c_isTray (by omega) a1 a2 ?_)
  rw [toI_int, b2i_z, iN_lt0 s1 s2, iN_lt (by omega) (by omega) s1 s2, iN_lt0 n1 n2, iN_le n1 n2 (by omega) (by omega)]
  refine ⟨fun c => c_deny (by omega) (by omega) (by omega) ⟨z01, hn (fun q => ?_)⟩, fun c => ?_⟩
  · have := of_decide_eq_false c; omega
  rw [Bool.not_eq_false] at c
  have t : 0 ≤ a ∧ a ≤ 3 := of_decide_eq_true c
  refine ⟨fun c2 => c_deny (by omega) (by omega) (by omega) ⟨z01, hn (by omega)⟩, fun c2 => ⟨fun c3 => c_deny (by omega) (by omega) (by omega) ⟨z01, hn (by omega)⟩, fun c3 => ⟨fun c4 => c_deny (by omega) (by omega) (by omega) ⟨z01, hn (by omega)⟩, fun c4 => ⟨fun c5 => ⟨iN_in (by omega) (by omega) (by omega), ?_⟩, fun c5 => c_deny (by omega) (by omega) (by omega) ⟨z01, hn (by omega)⟩⟩⟩⟩⟩
  obtain ⟨j, rfl⟩ : ∃ j : Nat, a = j := ⟨a.toNat, (by omega)⟩
  rw [iN_clN (by omega), trR (by omega)]
  have goal : CT l E (d - 1) m_Tray_make [(.ref (20 + j), 39), (.int (iN s), 0), (.int (iN n), 0)] (setR M (20 + j) (M (20 + j))) (fun v6 M6 => CT l E (d - 1) m_FN_agree [(.ref 0, 0)] M6 (fun v7 M7 => ((toI v7 = 0 ∨ toI v7 = 1) ∧ K (.int (toI v7), 0) M7))) :=
    c_trayMake (by omega) (by omega) (by omega) (by omega) (by omega) (c_agree (by omega) ⟨o01, hy (by omega) (by omega) (by omega) (by omega) (by omega) (by omega)⟩)
  rw [setR_self] at goal
  exact goal
def cS (M : Mem) (a p : Int) : Int := if 0 ≤ a ∧ a ≤ 3 then (if M (20 + a.toNat) 0 2 = -1 then 2 else if 0 ≤ p ∧ p < M (20 + a.toNat) 0 2 then 0 else 3) else 1
theorem cS_rng (M : Mem) (a p : Int) : 0 ≤ cS M a p ∧ cS M a p ≤ 3 := by
  unfold cS
  split
  · split
    · omega
    · split <;> omega
  · omega
theorem c_cellStatus {l : Launch} {E : EnvT} {d : Nat} {K : AV → Mem → Prop} {M : Mem} {a p : Int} (hd : 2 ≤ d) (hT : FT M) (a1 : -2147483648 ≤ a) (a2 : a < 2147483648) (p1 : -2147483648 ≤ p) (p2 : p < 2147483648) (h : K (.int (iN (cS M a p)), 0) M) : CT l E d m_FN_cellStatus [(.ref 0, 0), (.int (iN a), 0), (.int (iN p), 0)] M K := by
  refine CT.of pn_FN (Nat.le_of_ble_eq_true rfl) ?_
  refine b_FN_cellStatus_0 (by omega) (c_isTray (by omega) a1 a2 ?_)
  rw [toI_int, b2i_z]
  unfold cS at h
  refine ⟨fun c => ⟨?_, ?_⟩, fun c => ?_⟩
  · rw [Bool.not_eq_false] at c
    have t : 0 ≤ a ∧ a ≤ 3 := of_decide_eq_true c
    exact iN_in (by omega) (by omega) (by omega)
  · rw [Bool.not_eq_false] at c
    have t : 0 ≤ a ∧ a ≤ 3 := of_decide_eq_true c
    rw [if_pos t] at h
    obtain ⟨j, rfl⟩ : ∃ j : Nat, a = j := ⟨a.toNat, (by omega)⟩
    rw [show ((j : Int)).toNat = j from rfl] at h
    have tb := hT.at (j := j) (by omega)
    rw [iN_clN (by omega), trR (by omega)]
    refine c_isMissing (by omega) tb.2.1.1 tb.2.1.2 ?_
    have e : missB (M (20 + j)) = decide (M (20 + j) 0 2 = -1) := rfl
    have b2 := tb.2.1
    rw [toI_int, b2i_z, iN_lt0 p1 p2, e, decide_eq_false_iff_not, iN_le (by omega) (by omega) p1 p2]
    refine ⟨fun c2 => ⟨fun c3 => ?_, fun c3 => ⟨iN_in (by omega) (by omega) (by omega), fun c4 => ?_, fun c4 => ?_⟩⟩, fun c2 => ?_⟩
    · rw [if_neg c2, if_neg (by omega)] at h; exact h
    · rw [if_neg c2, if_neg (by omega)] at h; exact h
    · rw [if_neg c2, if_pos (by omega)] at h; exact h
    · rw [if_pos (by omega)] at h; exact h
  · have := of_decide_eq_false c
    rw [if_neg this] at h; exact h
theorem cS_0 {M : Mem} {a p : Int} (h : cS M a p = 0) : 0 ≤ a ∧ a ≤ 3 ∧ 0 ≤ p ∧ p < M (20 + a.toNat) 0 2 := by
  unfold cS at h
  split at h
  · split at h
    · omega
    · split at h <;> omega
  · omega
theorem c_writeQ {l : Launch} {E : EnvT} {d : Nat} {K : AV → Mem → Prop} {M : Mem} {a p : Int} {x : Int64} (hd : 3 ≤ d) (hT : FT M) (a1 : -2147483648 ≤ a) (a2 : a < 2147483648) (p1 : -2147483648 ≤ p) (p2 : p < 2147483648) (hn : cS M a p ≠ 0 → K (.int (iN 0), 0) (stM M (cS M a p))) (hy : cS M a p = 0 → K (.int (iN 1), 0) (stM (setR M (20 + a.toNat) (upd2 (M (20 + a.toNat)) 1 p.toNat (cutF (M (20 + a.toNat) 0 1) x).toInt)) 0)) : CT l E d m_FN_write [(.ref 0, 0), (.int (iN a), 0), (.int (iN p), 0), (.long x, 0)] M K := by
  refine CT.of pn_FN (Nat.le_of_ble_eq_true rfl) ?_
  refine b_FN_write_0 (by omega) (c_cellStatus (by omega) hT a1 a2 p1 p2 ?_)
  have r := cS_rng M a p
  rw [toI_int, iN_eq0 (by omega) (by omega)]
  refine ⟨fun c => ?_, fun c => c_deny (by omega) (by omega) (by omega) ⟨z01, hn c⟩⟩
  have t := cS_0 c
  obtain ⟨j, rfl⟩ : ∃ j : Nat, a = j := ⟨a.toNat, (by omega)⟩
  obtain ⟨k, rfl⟩ : ∃ k : Nat, p = k := ⟨p.toNat, (by omega)⟩
  rw [show ((j : Int)).toNat = j from rfl] at t
  have tb := hT.at (j := j) (by omega)
  have tb2 := tb.2.1
  refine ⟨iN_in (by omega) (by omega) (by omega), ?_⟩
  rw [iN_clN (by omega), trR (by omega)]
  have goal : CT l E (d - 1) m_Tray_put [(.ref (20 + j), 39), (.int (iN k), 0), (.long x, 0)] (setR M (20 + j) (M (20 + j))) (fun v6 M6 => CT l E (d - 1) m_FN_agree [(.ref 0, 0)] M6 (fun v7 M7 => ((toI v7 = 0 ∨ toI v7 = 1) ∧ K (.int (toI v7), 0) M7))) :=
    c_put (by omega) tb.1.1 tb.1.2 (by omega) (c_agree (by omega) ⟨o01, hy c⟩)
  rw [setR_self] at goal
  exact goal
theorem c_readQ {l : Launch} {E : EnvT} {d : Nat} {K : AV → Mem → Prop} {M : Mem} {a p : Int} (hd : 3 ≤ d) (hT : FT M) (a1 : -2147483648 ≤ a) (a2 : a < 2147483648) (p1 : -2147483648 ≤ p) (p2 : p < 2147483648) (hn : cS M a p ≠ 0 → K (.long (lI (-1)), 0) (stM M (cS M a p))) (hy : cS M a p = 0 → K (.long (lI (M (20 + a.toNat) 1 p.toNat)), 0) (stM M 0)) : CT l E d m_FN_read [(.ref 0, 0), (.int (iN a), 0), (.int (iN p), 0)] M K := by
  refine CT.of pn_FN (Nat.le_of_ble_eq_true rfl) ?_
  refine b_FN_read_0 (by omega) (c_cellStatus (by omega) hT a1 a2 p1 p2 ?_)
  have r := cS_rng M a p
  rw [toI_int, iN_eq0 (by omega) (by omega)]
  refine ⟨fun c => ?_, fun c => c_refuse (by omega) (by omega) (by omega) ?_⟩
  · have t := cS_0 c
    obtain ⟨j, rfl⟩ : ∃ j : Nat, a = j := ⟨a.toNat, (by omega)⟩
    obtain ⟨k, rfl⟩ : ∃ k : Nat, p = k := ⟨p.toNat, (by omega)⟩
    rw [show ((j : Int)).toNat = j from rfl] at t
    have tb := hT.at (j := j) (by omega)
    have tb2 := tb.2.1
    refine ⟨iN_in (by omega) (by omega) (by omega), iN_in (by omega) (by omega) (by omega), ?_⟩
    rw [iN_clN (by omega), trR (by omega), iN_clN (by omega), iN_0I, stM_eq]
    have e : stM M 0 (20 + j) = M (20 + j) := setR_ne _ _ (by omega)
    rw [e]
    exact hy c
  · rw [toI_int, iN_toL (by omega) (by omega)]
    exact hn c
def pS (M : Mem) (a p b q n : Int) : Int := if 0 ≤ a ∧ a ≤ 3 ∧ 0 ≤ b ∧ b ≤ 3 ∧ 0 ≤ p ∧ 0 ≤ q ∧ 0 ≤ n then (if M (20 + a.toNat) 0 2 = -1 ∨ M (20 + b.toNat) 0 2 = -1 then 2 else if M (20 + a.toNat) 0 1 ≠ M (20 + b.toNat) 0 1 then 8 else if p + n ≤ M (20 + a.toNat) 0 2 ∧ q + n ≤ M (20 + b.toNat) 0 2 then 0 else 3) else 1
theorem c_pourQ {l : Launch} {E : EnvT} {d : Nat} {K : AV → Mem → Prop} {M : Mem} {a p b q n : Int} (hd : 3 ≤ d) (hT : FT M) (a1 : -2147483648 ≤ a) (a2 : a < 2147483648) (p1 : -2147483648 ≤ p) (p2 : p < 2147483648) (b1 : -2147483648 ≤ b) (b2 : b < 2147483648) (q1 : -2147483648 ≤ q) (q2 : q < 2147483648) (n1 : -2147483648 ≤ n) (n2 : n < 2147483648) (hn : pS M a p b q n ≠ 0 → K (.int (iN 0), 0) (stM M (pS M a p b q n))) (hy : pS M a p b q n = 0 → K (.int (iN 1), 0) (stM (cpyM M (20 + a.toNat) 1 (20 + b.toNat) 1 p.toNat q.toNat n.toNat) 0)) : CT l E d m_FN_pour [(.ref 0, 0), (.int (iN a), 0), (.int (iN p), 0), (.int (iN b), 0), (.int (iN q), 0), (.int (iN n), 0)] M K := by
  refine CT.of pn_FN (Nat.le_of_ble_eq_true rfl) ?_
  unfold pS at hn hy
  refine b_FN_pour_0 (by omega) (c_isTray (by omega) a1 a2 ?_)
  rw [toI_int, b2i_z, iN_lt0 p1 p2, iN_lt0 q1 q2, iN_0le n1 n2, iN_lt0 n1 n2]
  have d1 : ¬ (0 ≤ a ∧ a ≤ 3 ∧ 0 ≤ b ∧ b ≤ 3 ∧ 0 ≤ p ∧ 0 ≤ q ∧ 0 ≤ n) → K (.int (iN 0), 0) (stM M 1) := by
    intro c
    rw [if_neg c] at hn
    exact hn (by omega)
  refine ⟨fun c => c_deny (by omega) (by omega) (by omega) ⟨z01, d1 (fun q => ?_)⟩, fun c => c_isTray (by omega) b1 b2 ?_⟩
  · have := of_decide_eq_false c; omega
  rw [Bool.not_eq_false] at c
  have t : 0 ≤ a ∧ a ≤ 3 := of_decide_eq_true c
  rw [toI_int, b2i_z]
  refine ⟨fun c2 => c_deny (by omega) (by omega) (by omega) ⟨z01, d1 (fun q => ?_)⟩, fun c2 => ⟨fun c3 => c_deny (by omega) (by omega) (by omega) ⟨z01, d1 (by omega)⟩, fun c3 => ⟨fun c4 => c_deny (by omega) (by omega) (by omega) ⟨z01, d1 (by omega)⟩, fun c4 => ⟨fun c5 => ?_, fun c5 => c_deny (by omega) (by omega) (by omega) ⟨z01, d1 (by omega)⟩⟩⟩⟩⟩
  · have := of_decide_eq_false c2; omega
  rw [Bool.not_eq_false] at c2
  have t2 : 0 ≤ b ∧ b ≤ 3 := of_decide_eq_true c2
  rw [if_pos ⟨t.1, t.2, t2.1, t2.2, (by omega), (by omega), (by omega)⟩] at hn hy
  obtain ⟨i, rfl⟩ : ∃ i : Nat, a = i := ⟨a.toNat, (by omega)⟩
  obtain ⟨j, rfl⟩ : ∃ j : Nat, b = j := ⟨b.toNat, (by omega)⟩
  rw [show ((i : Int)).toNat = i from rfl, show ((j : Int)).toNat = j from rfl] at hn hy
  have ti := hT.at (j := i) (by omega)
  have tj := hT.at (j := j) (by omega)
  have bi := ti.2.1
  have bj := tj.2.1
  have ci := ti.1
  have cj := tj.1
  have e : ∀ r, missB (M r) = decide (M r 0 2 = -1) := fun r => rfl
  refine ⟨iN_in (by omega) (by omega) (by omega), iN_in (by omega) (by omega) (by omega), ?_⟩
  rw [iN_clN (by omega), trR (by omega), iN_clN (by omega), trR (by omega)]
  refine c_isMissing (by omega) bi.1 bi.2 ?_
  rw [toI_int, b2i_z, e, decide_eq_false_iff_not]
  refine ⟨fun c6 => c_deny (by omega) (by omega) (by omega) ⟨z01, ?_⟩, fun c6 => c_isMissing (by omega) bj.1 bj.2 ?_⟩
  · rw [if_pos (by omega)] at hn; exact hn (by omega)
  rw [toI_int, b2i_z, e, decide_eq_false_iff_not, iN_eq (by omega) (by omega) (by omega) (by omega)]
  refine ⟨fun c7 => ⟨fun c8 => c_hasRow (by omega) bi.1 bi.2 p1 p2 n1 n2 ?_, fun c8 => c_deny (by omega) (by omega) (by omega) ⟨z01, ?_⟩⟩, fun c7 => c_deny (by omega) (by omega) (by omega) ⟨z01, ?_⟩⟩
  · rw [if_neg (by omega), if_neg (by omega)] at hn hy
    have er : ∀ (r : Nat) (x y : Int), rowB (M r) x y = decide (x + y ≤ M r 0 2) := fun r x y => rfl
    rw [toI_int, b2i_z, er, decide_eq_false_iff_not]
    refine ⟨fun c9 => c_deny (by omega) (by omega) (by omega) ⟨z01, ?_⟩, fun c9 => c_hasRow (by omega) bj.1 bj.2 q1 q2 n1 n2 ?_⟩
    · rw [if_neg (by omega)] at hn; exact hn (by omega)
    rw [toI_int, b2i_z, er, decide_eq_false_iff_not, iN_cl (by omega) (by omega), iN_cl (by omega) (by omega), iN_cl (by omega) (by omega)]
    refine ⟨fun c10 => ⟨c3, c4, (by omega), (by omega), (by omega), c_agree (by omega) ⟨o01, ?_⟩⟩, fun c10 => c_deny (by omega) (by omega) (by omega) ⟨z01, ?_⟩⟩
    · rw [if_pos (by omega)] at hy; exact hy rfl
    · rw [if_neg (by omega)] at hn; exact hn (by omega)
  · rw [if_neg (by omega), if_pos c8] at hn; exact hn (by omega)
  · rw [if_pos (by omega)] at hn; exact hn (by omega)
def lS (M : Mem) (C : Ch) (a t : Int) : Int := if livesB C a = true ∧ 0 ≤ t ∧ t ≤ 3 then (if M (20 + t.toNat) 0 2 = -1 then 2 else if C 4 a.toNat ≤ M (20 + t.toNat) 0 2 then 0 else 3) else 1
theorem c_lineTrayStatus {l : Launch} {E : EnvT} {d : Nat} {K : AV → Mem → Prop} {M : Mem} {rc : Nat} {a t : Int} (hd : 2 ≤ d) (hF : FC M rc) (hT : FT M) (a1 : -2147483648 ≤ a) (a2 : a < 2147483648) (p1 : -2147483648 ≤ t) (p2 : t < 2147483648) (h : K (.int (iN (lS M (M rc) a t)), 0) M) : CT l E d m_FN_lineTrayStatus [(.ref 0, 0), (.int (iN a), 0), (.int (iN t), 0)] M K := by
  refine CT.of pn_FN (Nat.le_of_ble_eq_true rfl) ?_
  have cl := hF.cl
  have hV := hF.2.2
  have hnn := hV.n
  unfold lS at h
  refine b_FN_lineTrayStatus_0 (by omega) ?_
  rw [hF.eq]
  refine ⟨cl, c_lives (by omega) hV a1 a2 ?_⟩
  rw [toI_int, b2i_z]
  refine ⟨fun c => ?_, fun c => c_isTray (by omega) p1 p2 ?_⟩
  · rw [if_neg (fun q => by rw [c] at q; exact absurd q.1 (by decide))] at h; exact h
  rw [Bool.not_eq_false] at c
  have t1 := livesB_spec c
  rw [toI_int, b2i_z]
  refine ⟨fun c2 => ⟨?_, ?_⟩, fun c2 => ?_⟩
  · rw [Bool.not_eq_false] at c2
    have t : 0 ≤ t ∧ t ≤ 3 := of_decide_eq_true c2
    exact iN_in (by omega) (by omega) (by omega)
  · rw [Bool.not_eq_false] at c2
    have t2 : 0 ≤ t ∧ t ≤ 3 := of_decide_eq_true c2
    rw [if_pos ⟨c, t2⟩] at h
    obtain ⟨j, rfl⟩ : ∃ j : Nat, t = j := ⟨t.toNat, (by omega)⟩
    obtain ⟨s, rfl⟩ : ∃ s : Nat, a = s := ⟨a.toNat, (by omega)⟩
    rw [show ((j : Int)).toNat = j from rfl, show ((s : Int)).toNat = s from rfl] at h
    have tb := hT.at (j := j) (by omega)
    have b2 := tb.2.1
    have le := hV.le s (by omega)
    rw [iN_clN (by omega), trR (by omega)]
    refine c_isMissing (by omega) b2.1 b2.2 ?_
    have e : missB (M (20 + j)) = decide (M (20 + j) 0 2 = -1) := rfl
    rw [toI_int, b2i_z, e, decide_eq_false_iff_not, hF.eq, iN_clN (by omega), iN_le (by omega) (by omega) (by omega) (by omega)]
    refine ⟨fun c3 => ⟨iN_in (by omega) (by omega) (by omega), cl, iN_in (by omega) (by omega) (by omega), fun c4 => ?_, fun c4 => ?_⟩, fun c3 => ?_⟩
    · rw [if_neg c3, if_pos c4] at h; exact h
    · rw [if_neg c3, if_neg c4] at h; exact h
    · rw [if_pos (by omega)] at h; exact h
  · have := of_decide_eq_false c2
    rw [if_neg (fun q => this q.2)] at h; exact h
theorem lS_rng (M : Mem) (C : Ch) (a t : Int) : 0 ≤ lS M C a t ∧ lS M C a t ≤ 3 := by
  unfold lS
  split
  · split
    · omega
    · split <;> omega
  · omega
theorem lS_0 {M : Mem} {C : Ch} {a t : Int} (h : lS M C a t = 0) : livesB C a = true ∧ 0 ≤ t ∧ t ≤ 3 ∧ C 4 a.toNat ≤ M (20 + t.toNat) 0 2 := by
  unfold lS at h
  split at h
  · rename_i c
    split at h
    · omega
    · split at h
      · exact ⟨c.1, c.2.1, c.2.2, by assumption⟩
      · omega
  · omega
def badC (T : Ch) (k : Nat) : Bool := decide (T 1 k < -12 ∨ 2000 < T 1 k)
def hS (M : Mem) (C : Ch) (a t : Int) : Int := if lS M C a t = 0 then (if fnd (badC (M (20 + t.toNat))) (C 4 a.toNat).toNat = -1 then 0 else 5) else lS M C a t
theorem hS_rng (M : Mem) (C : Ch) (a t : Int) : 0 ≤ hS M C a t ∧ hS M C a t ≤ 5 := by
  have := lS_rng M C a t
  unfold hS
  split
  · split <;> omega
  · omega
theorem c_heardStatus {l : Launch} {E : EnvT} {d : Nat} {K : AV → Mem → Prop} {M : Mem} {rc : Nat} {a t : Int} (hd : 3 ≤ d) (hF : FC M rc) (hT : FT M) (a1 : -2147483648 ≤ a) (a2 : a < 2147483648) (p1 : -2147483648 ≤ t) (p2 : t < 2147483648) (h : K (.int (iN (hS M (M rc) a t)), 0) M) : CT l E d m_FN_heardStatus [(.ref 0, 0), (.int (iN a), 0), (.int (iN t), 0)] M K := by
  refine CT.of pn_FN (Nat.le_of_ble_eq_true rfl) ?_
  have cl := hF.cl
  have hV := hF.2.2
  have hnn := hV.n
  have lr := lS_rng M (M rc) a t
  unfold hS at h
  refine b_FN_heardStatus_0 (by omega) (c_lineTrayStatus (by omega) hF hT a1 a2 p1 p2 ?_)
  rw [toI_int, iN_eq0 (by omega) (by omega)]
  refine ⟨fun c => ?_, fun c => ?_⟩
  · rw [if_pos c] at h
    have t0 := lS_0 c
    have t1 := livesB_spec t0.1
    obtain ⟨j, rfl⟩ : ∃ j : Nat, t = j := ⟨t.toNat, (by omega)⟩
    obtain ⟨s, rfl⟩ : ∃ s : Nat, a = s := ⟨a.toNat, (by omega)⟩
    rw [show ((j : Int)).toNat = j from rfl, show ((s : Int)).toNat = s from rfl] at h
    have tb := hT.at (j := j) (by omega)
    have le := hV.le s (by omega)
    obtain ⟨n, hl⟩ : ∃ n : Nat, M rc 4 s = n := ⟨(M rc 4 s).toNat, (by omega)⟩
    rw [hl, show ((n : Int)).toNat = n from rfl] at h
    have key : ∀ (m k : Nat), k + m = n → fnd (badC (M (20 + j))) n = fndF (badC (M (20 + j))) k m → G l E d m_FN_heardStatus 16 [(0, (.ref 0, 0)), (1, (.int (iN s), 0)), (2, (.int (iN (j : Int)), 0)), (4, (.int (iN k), 0))] [] M K := by
      intro m
      induction m with
      | zero =>
        intro k hk he
        have he : _ = (-1 : Int) := he
        refine b_FN_heardStatus_16 (by omega) ?_
        rw [hF.eq, iN_clN (by omega), hl]
        rw [if_pos he] at h
        exact ⟨cl, iN_in (by omega) (by omega) (by omega), fun _ => h, fun c => absurd ((iN_le (by omega) (by omega) (by omega) (by omega)).mpr (by omega)) c⟩
      | succ m ih =>
        intro k hk he
        have he : _ = (if badC (M (20 + j)) k = true then (k : Int) else fndF (badC (M (20 + j))) (k + 1) m) := he
        have bk := tb.2.2 k (by omega)
        refine b_FN_heardStatus_16 (by omega) ?_
        rw [hF.eq, iN_clN (by omega), hl]
        refine ⟨cl, iN_in (by omega) (by omega) (by omega), fun c => absurd ((iN_le (by omega) (by omega) (by omega) (by omega)).mp c) (by omega), fun _ => ⟨iN_in (by omega) (by omega) (by omega), iN_in (by omega) (by omega) (by omega), ?_⟩⟩
        rw [iN_clN (by omega), trR (by omega), iN_clN (by omega), lg_cmp_lt, lg_cmp_le, Int64.lt_iff_toInt_lt, Int64.le_iff_toInt_le, lI_small bk.1 bk.2, lI_small (by omega) (by omega), lI_small (by omega) (by omega), iN_add]
        have bad : (M (20 + j) 1 k < -12 ∨ 2000 < M (20 + j) 1 k) → K (.int (iN 5), 0) M := by
          intro b
          rw [if_pos (show badC (M (20 + j)) k = true from decide_eq_true b)] at he
          rw [if_neg (by omega)] at h
          exact h
        refine ⟨fun c => bad (Or.inl c), fun c => ⟨fun c2 => ih (k + 1) (by omega) ?_, fun c2 => bad (Or.inr (by omega))⟩⟩
        rw [if_neg (by unfold badC; simp; omega)] at he
        exact he
    exact key n 0 (by omega) rfl
  · rw [if_neg c] at h; exact h
def offC (M : Mem) (C : Ch) (s j k : Nat) : Int := M (20 + j) 1 k - sungC C s k
theorem sungC_rng {C : Ch} (hV : VB C) {s k : Nat} (hs : s < 8) (hk : k < 6) : -12 ≤ sungC C s k ∧ sungC C s k ≤ 1023 := by
  have := hV.no (6 * s + k) (by omega)
  have := hV.de (6 * s + k) (by omega)
  unfold sungC
  split <;> omega
theorem l2i {z : Int} (h1 : -2147483648 ≤ z) (h2 : z < 2147483648) : (lI z).toInt32 = iN z := by
  rw [← Int32.toInt_inj, Int64.toInt_toInt32, lI_small (by omega) (by omega), iN_small h1 h2]
  have h8 : (2 : Nat) ^ 32 = 4294967296 := by decide
  rw [h8]
  exact Int.bmod_eq_of_le (by omega) (by omega)
theorem c_offAt {l : Launch} {E : EnvT} {d : Nat} {K : AV → Mem → Prop} {M : Mem} {rc s j k : Nat} (hd : 3 ≤ d) (hF : FC M rc) (hs : s < 8) (hj : j < 4) (hk : k < 6) (b1 : -12 ≤ M (20 + j) 1 k) (b2 : M (20 + j) 1 k ≤ 2000) (h : K (.int (iN (offC M (M rc) s j k)), 0) M) : CT l E d m_FN_offAt [(.ref 0, 0), (.int (iN s), 0), (.int (iN j), 0), (.int (iN k), 0)] M K := by
  refine CT.of pn_FN (Nat.le_of_ble_eq_true rfl) ?_
  refine b_FN_offAt_0 (by omega) ?_
  rw [hF.eq, iN_clN (by omega), trR hj, iN_clN (by omega)]
  refine ⟨iN_in (by omega) (by omega) (by omega), iN_in (by omega) (by omega) (by omega), hF.cl, c_sungAt (by omega) hF.2.2 hs hk ?_⟩
  rw [l2i (by omega) (by omega), toI_int, iN_sub]
  exact h
