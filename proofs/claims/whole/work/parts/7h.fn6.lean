def byt (x : Int32) (k : Nat) : Int := (((x >>> (iN (k : Int) &&& 31)).toInt8.toInt32).toInt8.toInt32).toInt
theorem byt_rng (x : Int32) (k : Nat) : -128 ≤ byt x k ∧ byt x k ≤ 127 := by
  unfold byt
  rw [Int8.toInt_toInt32]
  exact ⟨Int8.le_toInt _, by have := Int8.toInt_lt (x >>> (iN (k : Int) &&& 31)).toInt8.toInt32.toInt8; omega⟩
theorem byt_0 (x : Int32) : (x.toInt8.toInt32).toInt8.toInt32.toInt = byt x 0 := by
  unfold byt
  have e : iN ((0 : Nat) : Int) &&& 31 = 0 := by decide +kernel
  rw [e]
  have e2 : x >>> (0 : Int32) = x := by simp
  rw [e2]
theorem byt_e (x : Int32) : ((x >>> (iN 24 &&& 31)).toInt8.toInt32).toInt8.toInt32.toInt = byt x 24 ∧ ((x >>> (iN 16 &&& 31)).toInt8.toInt32).toInt8.toInt32.toInt = byt x 16 ∧ ((x >>> (iN 8 &&& 31)).toInt8.toInt32).toInt8.toInt32.toInt = byt x 8 := ⟨rfl, rfl, rfl⟩
def spF (F : Ch) (x : Int32) : Ch := upd2 (upd2 (upd2 (upd2 (upd2 F 2 (F 0 16).toNat (byt x 24)) 2 ((F 0 16).toNat + 1) (byt x 16)) 2 ((F 0 16).toNat + 2) (byt x 8)) 2 ((F 0 16).toNat + 3) (byt x 0)) 0 16 (F 0 16 + 4)
theorem spF_16 (F : Ch) (x : Int32) : spF F x 0 16 = F 0 16 + 4 := by unfold spF; rw [upd2_same]
theorem spF_0 (F : Ch) (x : Int32) {k : Nat} (h : k ≠ 16) : spF F x 0 k = F 0 k := by unfold spF; rw [upd2_k _ _ h]; simp [upd2]
theorem spF_2 (F : Ch) (x : Int32) (j : Nat) : -128 ≤ F 2 j → F 2 j ≤ 127 → -128 ≤ spF F x 2 j ∧ spF F x 2 j ≤ 127 := by
  intro h1 h2
  have b0 := byt_rng x 0
  have b1 := byt_rng x 8
  have b2 := byt_rng x 16
  have b3 := byt_rng x 24
  unfold spF
  rw [upd2_c _ _ (by decide), upd2_at]
  split
  · exact b0
  · rw [upd2_at]
    split
    · exact b1
    · rw [upd2_at]
      split
      · exact b2
      · rw [upd2_at]
        split
        · exact b3
        · exact ⟨h1, h2⟩
theorem c_spool {l : Launch} {E : EnvT} {d : Nat} {K : AV → Mem → Prop} {M : Mem} {F : Ch} {x : Int32} (hd : 1 ≤ d) (p1 : 0 ≤ F 0 16) (p2 : F 0 16 + 4 ≤ 900) (h : K (.null, 0) (setR M 0 (spF F x))) : CT l E d m_FN_spool [(.ref 0, 0), (.int x, 0)] (setR M 0 F) K := by
  refine CT.of pn_FN (Nat.le_of_ble_eq_true rfl) ?_
  obtain ⟨p, hp⟩ : ∃ p : Nat, F 0 16 = p := ⟨(F 0 16).toNat, (by omega)⟩
  unfold spF at h
  rw [hp, show ((p : Int)).toNat = p from rfl] at h
  refine b_FN_spool_0 (by omega) ?_
  have c0 : ∀ (G : Ch) (k : Nat) (v : Int), upd2 G 2 k v 0 16 = G 0 16 := fun G k v => by simp [upd2]
  have e1 : (iN ((p : Int) + 1)).toNatClampNeg = p + 1 := iN_clN (k := p + 1) (by omega)
  have e2 : (iN ((p : Int) + 2)).toNatClampNeg = p + 2 := iN_clN (k := p + 2) (by omega)
  have e3 : (iN ((p : Int) + 3)).toNatClampNeg = p + 3 := iN_clN (k := p + 3) (by omega)
  have be := byt_e x
  simp only [upd3_setR, setR_same, setR_setR, c0, hp, iN_add, iN_clN (show (p : Int) < 2147483648 by omega), e1, e2, be.1, be.2.1, be.2.2]
  refine ⟨iN_in (by omega) (by omega) (by omega), iN_in (by omega) (by omega) (by omega), iN_in (by omega) (by omega) (by omega), b_FN_spool_46 (by omega) ?_⟩
  simp only [upd3_setR, setR_same, setR_setR, c0, hp, iN_add, e3, byt_0, iN_small (show -2147483648 ≤ (p : Int) + 4 by omega) (show (p : Int) + 4 < 2147483648 by omega)]
  exact ⟨iN_in (by omega) (by omega) (by omega), h⟩
theorem c_feedQ {l : Launch} {E : EnvT} {d : Nat} {K : AV → Mem → Prop} {M : Mem} {x1 x2 x3 x4 x5 : Int32} (hd : 2 ≤ d) (p1 : 0 ≤ M 0 0 16) (p2 : M 0 0 16 ≤ 900) (hn : 880 < M 0 0 16 → K (.int (iN (-1)), 0) M) (hy : M 0 0 16 ≤ 880 → K (.int (iN (M 0 0 16 + 20)), 0) (setR M 0 (spF (spF (spF (spF (spF (M 0) x1) x2) x3) x4) x5))) : CT l E d m_FN_feed [(.ref 0, 0), (.int x1, 0), (.int x2, 0), (.int x3, 0), (.int x4, 0), (.int x5, 0)] M K := by
  refine CT.of pn_FN (Nat.le_of_ble_eq_true rfl) ?_
  refine b_FN_feed_0 (by omega) ?_
  rw [iN_add, iN_le (by omega) (by omega) (by omega) (by omega)]
  refine ⟨fun c => ?_, fun c => hn (by omega)⟩
  have hy := hy (by omega)
  have goal : CT l E (d - 1) m_FN_spool [(.ref 0, 0), (.int x1, 0)] (setR M 0 (M 0)) (fun v1 M1 => CT l E (d - 1) m_FN_spool [(.ref 0, 0), (.int x2, 0)] M1 (fun v2 M2 => CT l E (d - 1) m_FN_spool [(.ref 0, 0), (.int x3, 0)] M2 (fun v3 M3 => CT l E (d - 1) m_FN_spool [(.ref 0, 0), (.int x4, 0)] M3 (fun v4 M4 => CT l E (d - 1) m_FN_spool [(.ref 0, 0), (.int x5, 0)] M4 (fun v5 M5 => K (.int (iN (M5 0 0 16)), 0) M5))))) := by
    refine c_spool (by omega) (by omega) (by omega) (c_spool (by omega) ?_ ?_ (c_spool (by omega) ?_ ?_ (c_spool (by omega) ?_ ?_ (c_spool (by omega) ?_ ?_ ?_))))
    all_goals simp only [spF_16, setR_same]
    all_goals try omega
    rw [show M 0 0 16 + 4 + 4 + 4 + 4 + 4 = M 0 0 16 + 20 by omega]
    exact hy
  rw [setR_self] at goal
  exact goal
def ntF (F T : Ch) : Ch := upd2 (upd2 (upd2 F 0 16 0) 0 17 (T 0 10)) 0 18 (if T 0 10 = 0 then -1 else T 0 4)
theorem c_noteFault {l : Launch} {E : EnvT} {d : Nat} {K : AV → Mem → Prop} {M : Mem} {r : Nat} (hd : 1 ≤ d) (hr : r ≠ 0) (f1 : 0 ≤ M r 0 10) (f2 : M r 0 10 ≤ 9) (q1 : 0 ≤ M r 0 4) (q2 : M r 0 4 ≤ 900) (h : K (.null, 0) (setR M 0 (ntF (M 0) (M r)))) : CT l E d m_FN_noteFault [(.ref 0, 0), (.ref r, 4)] M K := by
  refine CT.of pn_FN (Nat.le_of_ble_eq_true rfl) ?_
  refine b_FN_noteFault_0 (by omega) ?_
  unfold ntF at h
  simp only [upd3_setR, setR_same, setR_setR, setR_ne _ _ hr, iN_0I, iN_m1I, iN_small (show -2147483648 ≤ M r 0 10 by omega) (show M r 0 10 < 2147483648 by omega), iN_small (show -2147483648 ≤ M r 0 4 by omega) (show M r 0 4 < 2147483648 by omega)]
  rw [iN_eq0 (by omega) (by omega)]
  refine ⟨fun c => ?_, fun c => ?_⟩
  · rw [if_neg c] at h; exact h
  · rw [if_pos c] at h; exact h
/-- the choir that is taken, the fault told -/
def chM1 (M : Mem) (rs : Nat) (q : QS) : Mem := setR (m3 M 1 2 rs q.2.1 q.2.2.1 q.2.2.2) 0 (ntF (M 0) q.2.2.1)
def chM2 (M : Mem) (rc rs ry : Nat) : Mem := setR (setR M 0 (upd2 (upd2 (M 0) 0 9 rs) 0 10 rc)) ry (forgY (M ry))
theorem rAllF_PI {X : Nat → Int} {L : Nat} (L9 : L ≤ 900) (hX : XBn X) : ∀ (m : Nat) (A T C : Ch), TI T L → VB C → TI (rAllF X L m A T C).2.2.1 L ∧ VB (rAllF X L m A T C).2.2.2
  | 0, _, _, _, hT, hV => ⟨hT, hV⟩
  | m + 1, A, T, C, hT, hV => by
    have p := rPart_PI L9 hX (A := A) hT hV
    unfold rAllF
    split
    · exact ⟨hT, hV⟩
    · split
      · exact rAllF_PI L9 hX m _ _ _ (adv_TI L9 hX p.1) p.2
      · exact p
theorem rAll_PI {X : Nat → Int} {L : Nat} (L9 : L ≤ 900) (hX : XBn X) {A T C : Ch} (hT : TG T) (hV : VB C) : TI (rAll X L A T C).2.2.1 L ∧ VB (rAll X L A T C).2.2.2 :=
  rAllF_PI L9 hX _ _ _ _ (adv_TI L9 hX (TI_start hT)) (VB_empty hV)
theorem c_choirQ {l : Launch} {E : EnvT} {d : Nat} {K : AV → Mem → Prop} {M : Mem} {rc rs ry : Nat} {n : Int} (hd : 10 ≤ d) (hF : FC M rc) (hs : M 0 0 10 = rs) (hcs : (rc = 16 ∧ rs = 17) ∨ (rc = 17 ∧ rs = 16)) (hsV : VB (M rs)) (hG : FY M ry) (hT : TG (M 2)) (hX : XB M) (t1 : 0 ≤ M 0 0 16) (t2 : M 0 0 16 ≤ 900) (n1 : -2147483648 ≤ n) (n2 : n < 2147483648) (hn : ¬ (0 ≤ n ∧ n ≤ M 0 0 16) → K (.int (iN (-1)), 0) (stM M 1)) (h9 : ∀ L : Nat, n = L → n ≤ M 0 0 16 → (rAll (M 0 2) L (M 1) (M 2) (M rs)).1 = false → K (.int (iN (-1)), 0) (stM (chM1 M rs (rAll (M 0 2) L (M 1) (M 2) (M rs))) 9)) (hy : ∀ L : Nat, n = L → n ≤ M 0 0 16 → (rAll (M 0 2) L (M 1) (M 2) (M rs)).1 = true → K (.int (iN ((rAll (M 0 2) L (M 1) (M 2) (M rs)).2.2.2 0 8)), 0) (stM (chM2 (chM1 M rs (rAll (M 0 2) L (M 1) (M 2) (M rs))) rc rs ry) 0)) : CT l E d m_FN_choir [(.ref 0, 0), (.int (iN n), 0)] M K := by
  refine CT.of pn_FN (Nat.le_of_ble_eq_true rfl) ?_
  have cl := hF.cl
  have hry := hG.2.1
  have cls : (rs, 11) ∈ CL := by rcases hcs with ⟨_, rfl⟩ | ⟨_, rfl⟩ <;> decide +kernel
  refine b_FN_choir_0 (by omega) ?_
  rw [hs, show ((rs : Int)).toNat = rs from rfl, iN_lt0 n1 n2, iN_le n1 n2 (by omega) (by omega)]
  refine ⟨fun c => c_refuse (by omega) (by omega) (by omega) (hn (by omega)), fun c => ⟨fun c2 => ⟨cls, ?_⟩, fun c2 => c_refuse (by omega) (by omega) (by omega) (hn (by omega))⟩⟩
  obtain ⟨L, rfl⟩ : ∃ L : Nat, n = L := ⟨n.toNat, (by omega)⟩
  have L9 : L ≤ 900 := (by omega)
  have h9 := h9 L rfl c2
  have hy := hy L rfl c2
  have o : O3 1 2 rs := O12 (by omega)
  have pi := rAll_PI L9 hX (A := M 1) hT hsV
  refine c_cReadAll (by omega) (by omega) hT L9 hX hsV ?_
  generalize rAll (M 0 2) L (M 1) (M 2) (M rs) = q at h9 hy pi
  have b10 := pi.1.2.2.2.2.2.2.2.2.2.2
  have b4 := pi.1.2.2.2.2.1
  refine c_noteFault (by omega) (by omega) (by rw [m3_b M o]; exact b10.1) (by rw [m3_b M o]; exact b10.2) (by rw [m3_b M o]; exact b4.1) (by rw [m3_b M o]; exact b4.2) ?_
  have em : setR (m3 M 1 2 rs q.2.1 q.2.2.1 q.2.2.2) 0 (ntF (m3 M 1 2 rs q.2.1 q.2.2.1 q.2.2.2 0) (m3 M 1 2 rs q.2.1 q.2.2.1 q.2.2.2 2)) = chM1 M rs q := by
    unfold chM1
    rw [m3_b M o, m3_0 M o]
  rw [em]
  have k9 : chM1 M rs q 0 0 9 = rc := by
    unfold chM1 ntF; rw [setR_same]; simp only [upd2]; simpa using hF.1
  have k10 : chM1 M rs q 0 0 10 = rs := by
    unfold chM1 ntF; rw [setR_same]; simp only [upd2]; simpa using hs
  have k11 : chM1 M rs q 0 0 11 = ry := by
    unfold chM1 ntF; rw [setR_same]; simp only [upd2]; simpa using hG.1
  rw [toI_int, b2i_z, k9, k10, show ((rs : Int)).toNat = rs from rfl, show ((rc : Int)).toNat = rc from rfl]
  refine ⟨fun c3 => ?_, fun c3 => c_refuse (by omega) (by omega) (by omega) (h9 c3)⟩
  rw [Bool.not_eq_false] at c3
  have hy := hy c3
  refine ⟨cl, cls, ?_⟩
  have q2 : upd3 (upd3 (chM1 M rs q) 0 0 9 (rs : Int)) 0 0 10 (rc : Int) = setR (chM1 M rs q) 0 (upd2 (upd2 (chM1 M rs q 0) 0 9 rs) 0 10 rc) := by
    rw [upd3_setR, upd3_setR, setR_same, setR_setR]
  rw [q2]
  have k11' : setR (chM1 M rs q) 0 (upd2 (upd2 (chM1 M rs q 0) 0 9 rs) 0 10 rc) 0 0 11 = ry := by
    rw [setR_same]; simp only [upd2]; simpa using k11
  rw [k11', show ((ry : Int)).toNat = ry from rfl]
  refine ⟨hG.cl, ?_⟩
  have e3 := setR_self (setR (chM1 M rs q) 0 (upd2 (upd2 (chM1 M rs q 0) 0 9 rs) 0 10 rc)) ry
  have goal : CT l E (d - 1) m_Years_forget [(.ref ry, 23)] (setR (setR (chM1 M rs q) 0 (upd2 (upd2 (chM1 M rs q 0) 0 9 rs) 0 10 rc)) ry (setR (chM1 M rs q) 0 (upd2 (upd2 (chM1 M rs q 0) 0 9 rs) 0 10 rc) ry)) (fun v4 M4 => ((M4 0 0 9).toNat, 11) ∈ CL ∧ CT l E (d - 1) m_FN_answer [(.ref 0, 0), (.int (iN (M4 (M4 0 0 9).toNat 0 8)), 0)] M4 (fun v5 M5 => K (.int (toI v5), 0) M5)) := by
    refine c_forget (by omega) ?_
    have z0 : ∀ Z : Ch, setR (setR (chM1 M rs q) 0 (upd2 (upd2 (chM1 M rs q 0) 0 9 rs) 0 10 rc)) ry Z 0 = upd2 (upd2 (chM1 M rs q 0) 0 9 rs) 0 10 rc := fun Z => by rw [setR_ne _ _ (by omega), setR_same]
    have zs : ∀ Z : Ch, setR (setR (chM1 M rs q) 0 (upd2 (upd2 (chM1 M rs q 0) 0 9 rs) 0 10 rc)) ry Z rs = q.2.2.2 := fun Z => by
      rw [setR_ne _ _ (by omega), setR_ne _ _ (by omega)]
      unfold chM1
      rw [setR_ne _ _ (by omega), m3_c M]
    have z9 : upd2 (upd2 (chM1 M rs q 0) 0 9 rs) 0 10 rc 0 9 = rs := by simp [upd2]
    rw [z0, z9, show ((rs : Int)).toNat = rs from rfl, zs]
    refine ⟨cls, c_answer (by omega) ?_⟩
    have ey : setR (chM1 M rs q) 0 (upd2 (upd2 (chM1 M rs q 0) 0 9 rs) 0 10 rc) ry = chM1 M rs q ry := setR_ne _ _ (by omega)
    rw [ey]
    exact hy
  rw [e3] at goal
  exact goal
def yrM1 (M : Mem) (rz : Nat) (q : QS) : Mem := setR (m3 M 3 4 rz q.2.1 q.2.2.1 q.2.2.2) 0 (ntF (M 0) q.2.2.1)
def yrM2 (M : Mem) (ry rz : Nat) : Mem := setR M 0 (upd2 (upd2 (M 0) 0 11 rz) 0 12 ry)
theorem yAF_QI {X : Nat → Int} {L : Nat} (L9 : L ≤ 900) (hX : XBn X) {C : Ch} (hV : VB C) : ∀ (m : Nat) (D T Y : Ch), TI T L → YV Y → DI D Y → QI (yAF X L C m D T Y) L
  | 0, _, _, _, hT, hY, hD => ⟨hT, hY, hD⟩
  | m + 1, D, T, Y, hT, hY, hD => by
    have p := yPt_QI L9 hX hV hT hY hD
    unfold yAF
    split
    · exact ⟨hT, hY, hD⟩
    · split
      · exact yAF_QI L9 hX hV m _ _ _ (adv_TI L9 hX p.1) p.2.1 p.2.2
      · exact p
theorem yAll_QI {X : Nat → Int} {L : Nat} (L9 : L ≤ 900) (hX : XBn X) {C D T Y : Ch} (hV : VB C) (hT : TG T) (hY : YV Y) (hO : ∀ k, k < 3 → 0 ≤ D 1 k ∧ D 1 k < 60) : QI (yAll X L C D T Y) L := by
  have q : QI (yAF X L C (L + 1) (upd2 D 0 2 0) (advT X L (startT T L)) (forgY Y)) L := by
    refine yAF_QI L9 hX hV _ _ _ _ (adv_TI L9 hX (TI_start hT)) ?_ ?_
    · unfold forgY
      exact ((hY.u ⟨(by omega), (by omega), (by omega), (by omega), (by omega), (by omega)⟩).u ⟨(by omega), (by omega), (by omega), (by omega), (by omega), (by omega)⟩).u ⟨(by omega), (by omega), (by omega), (by omega), (by omega), (by omega)⟩
    · unfold DI forgY
      simp only [upd2, Nat.reduceEqDiff, and_true, and_false, if_true, if_false, and_self, true_and]
      exact ⟨by omega, by simpa using hO, by omega, by omega, by omega, by simp⟩
  unfold yAll
  generalize yAF X L C (L + 1) (upd2 D 0 2 0) (advT X L (startT T L)) (forgY Y) = q0 at q
  obtain ⟨q1, q2, q3⟩ := q
  have v8 : YV (upd2 q0.2.2.2 0 8 1) := q2.u ⟨(by omega), (by omega), (by omega), (by omega), (by omega), (by omega)⟩
  have d8 : DI q0.2.1 (upd2 q0.2.2.2 0 8 1) := by
    obtain ⟨a1, a2, a3, a4, a5, a6⟩ := q3
    unfold DI
    simp only [upd2, Nat.reduceEqDiff, and_true, and_false, if_true, if_false, and_self, true_and]
    exact ⟨a1, a2, a3, a4, a5, by simp⟩
  unfold yFin
  split
  · split
    · exact ⟨q1, v8, d8⟩
    · exact ⟨q1.rf (by omega) (by omega), v8, d8⟩
  · exact ⟨q1, q2, q3⟩
theorem c_yearsQ {l : Launch} {E : EnvT} {d : Nat} {K : AV → Mem → Prop} {M : Mem} {rc ry rz : Nat} {n : Int} (hd : 11 ≤ d) (hF : FC M rc) (hG : FY M ry) (hz : M 0 0 12 = rz) (hyz : (ry = 18 ∧ rz = 19) ∨ (ry = 19 ∧ rz = 18)) (hzY : YV (M rz)) (hT : TG (M 4)) (hX : XB M) (hO : ∀ k, k < 3 → 0 ≤ M 3 1 k ∧ M 3 1 k < 60) (t1 : 0 ≤ M 0 0 16) (t2 : M 0 0 16 ≤ 900) (n1 : -2147483648 ≤ n) (n2 : n < 2147483648) (hn : ¬ (0 ≤ n ∧ n ≤ M 0 0 16 ∧ n ≤ 300) → K (.int (iN (-1)), 0) (stM M 1)) (h9 : ∀ L : Nat, n = L → n ≤ M 0 0 16 → n ≤ 300 → (yAll (M 0 2) L (M rc) (M 3) (M 4) (M rz)).1 = false → K (.int (iN (-1)), 0) (stM (yrM1 M rz (yAll (M 0 2) L (M rc) (M 3) (M 4) (M rz))) 9)) (hy : ∀ L : Nat, n = L → n ≤ M 0 0 16 → n ≤ 300 → (yAll (M 0 2) L (M rc) (M 3) (M 4) (M rz)).1 = true → K (.int (iN ((yAll (M 0 2) L (M rc) (M 3) (M 4) (M rz)).2.2.2 0 7)), 0) (stM (yrM2 (yrM1 M rz (yAll (M 0 2) L (M rc) (M 3) (M 4) (M rz))) ry rz) 0)) : CT l E d m_FN_years [(.ref 0, 0), (.int (iN n), 0)] M K := by
  refine CT.of pn_FN (Nat.le_of_ble_eq_true rfl) ?_
  have cl := hF.cl
  have hrc := hF.2.1
  have clz : (rz, 23) ∈ CL := by rcases hyz with ⟨_, rfl⟩ | ⟨_, rfl⟩ <;> decide +kernel
  refine b_FN_years_0 (by omega) ?_
  rw [hF.eq, hz, show ((rz : Int)).toNat = rz from rfl, iN_lt0 n1 n2, iN_lt (by omega) (by omega) n1 n2, iN_le n1 n2 (by omega) (by omega)]
  refine ⟨fun c => c_refuse (by omega) (by omega) (by omega) (hn (by omega)), fun c => ⟨fun c2 => c_refuse (by omega) (by omega) (by omega) (hn (by omega)), fun c2 => ⟨fun c3 => ⟨cl, clz, ?_⟩, fun c3 => c_refuse (by omega) (by omega) (by omega) (hn (by omega))⟩⟩⟩
  obtain ⟨L, rfl⟩ : ∃ L : Nat, n = L := ⟨n.toNat, (by omega)⟩
  have L9 : L ≤ 900 := (by omega)
  have h9 := h9 L rfl (by omega) c3
  have hy := hy L rfl (by omega) c3
  have o : O3 3 4 rz := O34 (by omega)
  have pi := yAll_QI L9 hX hF.2.2 hT hzY hO
  refine c_yReadAll (by omega) (by omega) hrc hT L9 hX hF.2.2 hzY hO ?_
  generalize yAll (M 0 2) L (M rc) (M 3) (M 4) (M rz) = q at h9 hy pi
  have b10 := pi.1.2.2.2.2.2.2.2.2.2.2
  have b4 := pi.1.2.2.2.2.1
  refine c_noteFault (by omega) (by omega) (by rw [m3_b M o]; exact b10.1) (by rw [m3_b M o]; exact b10.2) (by rw [m3_b M o]; exact b4.1) (by rw [m3_b M o]; exact b4.2) ?_
  have em : setR (m3 M 3 4 rz q.2.1 q.2.2.1 q.2.2.2) 0 (ntF (m3 M 3 4 rz q.2.1 q.2.2.1 q.2.2.2 0) (m3 M 3 4 rz q.2.1 q.2.2.1 q.2.2.2 4)) = yrM1 M rz q := by
    unfold yrM1
    rw [m3_b M o, m3_0 M o]
  rw [em]
  have k11 : yrM1 M rz q 0 0 11 = ry := by
    unfold yrM1 ntF; rw [setR_same]; simp only [upd2]; simpa using hG.1
  have k12 : yrM1 M rz q 0 0 12 = rz := by
    unfold yrM1 ntF; rw [setR_same]; simp only [upd2]; simpa using hz
  rw [toI_int, b2i_z, k11, k12, show ((rz : Int)).toNat = rz from rfl, show ((ry : Int)).toNat = ry from rfl]
  refine ⟨fun c4 => ⟨hG.cl, clz, ?_⟩, fun c4 => c_refuse (by omega) (by omega) (by omega) (h9 c4)⟩
  rw [Bool.not_eq_false] at c4
  have hy := hy c4
  have q2 : upd3 (upd3 (yrM1 M rz q) 0 0 11 (rz : Int)) 0 0 12 (ry : Int) = yrM2 (yrM1 M rz q) ry rz := by
    unfold yrM2
    rw [upd3_setR, upd3_setR, setR_same, setR_setR]
  rw [q2]
  have k11' : yrM2 (yrM1 M rz q) ry rz 0 0 11 = rz := by
    unfold yrM2; rw [setR_same]; simp [upd2]
  have kz : yrM2 (yrM1 M rz q) ry rz rz = q.2.2.2 := by
    unfold yrM2 yrM1; rw [setR_ne _ _ (by omega), setR_ne _ _ (by omega), m3_c M]
  rw [k11', show ((rz : Int)).toNat = rz from rfl, kz]
  exact ⟨clz, c_answer (by omega) hy⟩
theorem laF_le (A : Nat → Int) (n : Nat) : ∀ m b : Nat, laF A n m b ≤ max m b
  | 0, b => by unfold laF; omega
  | m + 1, b => by
    unfold laF
    split
    · have := laF_le A n m m; omega
    · have := laF_le A n m b; omega
theorem laF_lt (A : Nat → Int) (n : Nat) (h : n ≤ 8) : laF A n (2 ^ n - 1) (2 ^ n - 1) < 256 := by
  have := laF_le A n (2 ^ n - 1) (2 ^ n - 1)
  have := ones_lt h
  omega
theorem frL_rg (A : Nat → Int) (n : Nat) : ∀ (m len : Nat) (P : Nat → Int), (frL A n len m P).1 = 0 ∨ ((len : Int) ≤ (frL A n len m P).1 ∧ (frL A n len m P).1 < len + m)
  | 0, _, _ => Or.inl rfl
  | m + 1, len, P => by
    unfold frL
    split
    · exact Or.inr ⟨Int.le_refl _, by show (len : Int) < _; push_cast; omega⟩
    · rcases frL_rg A n m (len + 1) (frS A n len 0 n P).2 with h | h
      · exact Or.inl h
      · exact Or.inr ⟨by omega, by push_cast; omega⟩
theorem frL_rng (A : Nat → Int) (n : Nat) (h : n ≤ 8) (P : Nat → Int) : 0 ≤ (frL A n 3 (n - 2) P).1 ∧ (frL A n 3 (n - 2) P).1 ≤ 8 := by
  rcases frL_rg A n (n - 2) 3 P with e | e <;> omega
theorem c_askQ {l : Launch} {E : EnvT} {d : Nat} {K : AV → Mem → Prop} {M : Mem} {rc n : Nat} (hd : 5 ≤ d) (hF : FC M rc) (hn : M rc 0 8 = n) (h : ∀ T : Ch, LK T (M rc) n → K (.int (iN (popc (laF (T 3) n (2 ^ n - 1) (2 ^ n - 1)))), 0) (stM (setR M 12 T) 0)) : CT l E d m_FN_ask [(.ref 0, 0)] M K := by
  refine CT.of pn_FN (Nat.le_of_ble_eq_true rfl) ?_
  have hV := hF.2.2
  have h8 := hV.n
  have hr := hF.2.1
  refine b_FN_ask_0 (by omega) ?_
  rw [hF.eq]
  refine ⟨hF.cl, c_look (by omega) (by omega) hV hn (fun T hT => ?_)⟩
  refine c_leastAsked (by omega) (by rw [setR_same]; exact hT.1) (by omega) (by rw [setR_same]; exact hT.a (by omega)) ?_
  rw [setR_same, toI_int]
  have ll : laF (T 3) n (2 ^ n - 1) (2 ^ n - 1) < 256 := laF_lt (T 3) n (by omega)
  exact c_bitCount (by omega) (by omega) (by omega) (c_answer (by omega) (h T hT))
theorem c_behindQ {l : Launch} {E : EnvT} {d : Nat} {K : AV → Mem → Prop} {M : Mem} {rc n : Nat} {a : Int} (hd : 5 ≤ d) (hF : FC M rc) (hn : M rc 0 8 = n) (a1 : -2147483648 ≤ a) (a2 : a < 2147483648) (h1 : livesB (M rc) a = false → K (.int (iN (-1)), 0) (stM M 1)) (hy : livesB (M rc) a = true → ∀ T : Ch, LK T (M rc) n → K (.int (iN (clrN (rchT (T 2) n n (2 ^ a.toNat)) a.toNat : Nat)), 0) (stM (setR M 12 T) 0)) : CT l E d m_FN_behind [(.ref 0, 0), (.int (iN a), 0)] M K := by
  refine CT.of pn_FN (Nat.le_of_ble_eq_true rfl) ?_
  have hV := hF.2.2
  have h8 := hV.n
  have hr := hF.2.1
  refine b_FN_behind_0 (by omega) ?_
  rw [hF.eq]
  refine ⟨hF.cl, c_lives (by omega) hV a1 a2 ?_⟩
  rw [toI_int, b2i_z, hF.eq]
  refine ⟨fun c => ⟨hF.cl, c_look (by omega) (by omega) hV hn (fun T hT => ?_)⟩, fun c => c_refuse (by omega) (by omega) (by omega) (h1 c)⟩
  rw [Bool.not_eq_false] at c
  have t := livesB_spec c
  have hy := hy c T hT
  obtain ⟨s, rfl⟩ : ∃ s : Nat, a = s := ⟨a.toNat, (by omega)⟩
  refine c_reachedFrom (by omega) (by rw [setR_same]; exact hT.1) (by omega) (by omega) (by rw [setR_same]; exact hT.n (by omega)) ?_
  rw [setR_same]
  exact c_answer (by omega) hy
theorem c_roundQ {l : Launch} {E : EnvT} {d : Nat} {K : AV → Mem → Prop} {M : Mem} {rc n : Nat} (hd : 12 ≤ d) (hF : FC M rc) (hn : M rc 0 8 = n) (h : ∀ T T' : Ch, LK T (M rc) n → K (.int (iN (if (frL (T 2) n 3 (n - 2) (T 4)).1 = 0 then -1 else (frL (T 2) n 3 (n - 2) (T 4)).1)), 0) (stM (setR M 12 T') (if (frL (T 2) n 3 (n - 2) (T 4)).1 = 0 then 6 else 0))) : CT l E d m_FN_round [(.ref 0, 0)] M K := by
  refine CT.of pn_FN (Nat.le_of_ble_eq_true rfl) ?_
  have hV := hF.2.2
  have h8 := hV.n
  have hr := hF.2.1
  refine b_FN_round_0 (by omega) ?_
  rw [hF.eq]
  refine ⟨hF.cl, c_look (by omega) (by omega) hV hn (fun T hT => ?_)⟩
  refine c_findRound (by omega) hT.1 (by omega) (hT.n (by omega)) ?_
  have h := h T (setC T 4 (frL (T 2) n 3 (n - 2) (T 4)).2) hT
  have fr := frL_rng (T 2) n (by omega) (T 4)
  rw [toI_int, iN_eq0 (by omega) (by omega)]
  refine ⟨fun c => c_answer (by omega) ?_, fun c => c_refuse (by omega) (by omega) (by omega) ?_⟩
  · rw [if_neg c, if_neg c] at h; exact h
  · rw [if_pos c, if_pos c] at h; exact h
