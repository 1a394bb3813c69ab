theorem c_heldQ {l : Launch} {E : EnvT} {d : Nat} {K : AV → Mem → Prop} {M : Mem} {rc : Nat} {a b z : Int} (hd : 3 ≤ d) (hF : FC M rc) (a1 : -2147483648 ≤ a) (a2 : a < 2147483648) (b1 : -2147483648 ≤ b) (b2 : b < 2147483648) (z1 : -2147483648 ≤ z) (z2 : z < 2147483648) (hn : ¬ (noteB (M rc) a b = true ∧ 0 ≤ z ∧ z ≤ 1) → K (.int (iN (-1)), 0) (stM M 1)) (hy : ∀ s k : Nat, a = s → b = k → noteB (M rc) a b = true → 0 ≤ z → z ≤ 1 → (s < 8 ∧ k < 6 ∧ ((M rc 6 (6 * s + k) = -1 → K (.int (iN (-1)), 0) (stM M 6)) ∧ (M rc 6 (6 * s + k) ≠ -1 → K (.int (iN (if z = 0 then M rc 6 (6 * s + k) else M rc 7 (6 * s + k))), 0) (stM M 0))))) : CT l E d m_FN_held [(.ref 0, 0), (.int (iN a), 0), (.int (iN b), 0), (.int (iN z), 0)] M K := by
  refine CT.of pn_FN (Nat.le_of_ble_eq_true rfl) ?_
  have cl := hF.cl
  have hV := hF.2.2
  have hnn := hV.n
  refine b_FN_held_0 (by omega) ?_
  rw [hF.eq]
  refine ⟨cl, c_knows (by omega) hV a1 a2 ?_⟩
  rw [toI_int, b2i_z, hF.eq]
  refine ⟨fun c => c_refuse (by omega) (by omega) (by omega) (hn ?_), fun c => ?_⟩
  · intro q
    have := q.1
    unfold noteB at this
    rw [c] at this
    cases this
  · rw [Bool.not_eq_false] at c
    have t := knowsB_spec c
    obtain ⟨s, rfl⟩ : ∃ s : Nat, a = s := ⟨a.toNat, (by omega)⟩
    have s8 : s < 8 := (by omega)
    have le := hV.le s s8
    refine ⟨cl, c_hasNote (by omega) hV s8 b1 b2 ?_⟩
    rw [toI_int, b2i_z, iN_lt0 z1 z2, iN_le z1 z2 (by omega) (by omega)]
    refine ⟨fun c2 => c_refuse (by omega) (by omega) (by omega) (hn ?_), fun c2 => ⟨fun c3 => c_refuse (by omega) (by omega) (by omega) (hn (fun q => by omega)), fun c3 => ⟨fun c4 => c_slot (by omega) ?_, fun c4 => c_refuse (by omega) (by omega) (by omega) (hn (fun q => by omega))⟩⟩⟩
    · intro q
      have := q.1
      unfold noteB at this
      rw [c, show ((s : Int)).toNat = s from rfl, c2] at this
      cases this
    · rw [Bool.not_eq_false] at c2
      have t2 := of_decide_eq_true c2
      obtain ⟨k, rfl⟩ : ∃ k : Nat, b = k := ⟨b.toNat, (by omega)⟩
      have nb : noteB (M rc) s k = true := by
        unfold noteB
        rw [c, show ((s : Int)).toNat = s from rfl, c2]
        rfl
      have hy := hy s k rfl rfl nb (by omega) (by omega)
      have ho := hV.ho (6 * s + k) (by omega)
      rw [show (s : Int) * 6 + k = ((6 * s + k : Nat) : Int) by push_cast; omega, toI_int, iN_clN (by omega), hF.eq, iN_eq (by omega) (by omega) (by omega) (by omega), iN_eq0 (by omega) (by omega)]
      refine ⟨cl, iN_in (by omega) (by omega) (by omega), fun c5 => ⟨fun c6 => ⟨cl, iN_in (by omega) (by omega) (by omega), c_answer (by omega) ?_⟩, fun c6 => ⟨cl, iN_in (by omega) (by omega) (by omega), c_answer (by omega) ?_⟩⟩, fun c5 => c_refuse (by omega) (by omega) (by omega) (hy.2.2.1 c5)⟩
      · have := hy.2.2.2 c5
        rw [if_neg c6] at this; exact this
      · have := hy.2.2.2 c5
        rw [if_pos c6] at this; exact this
theorem c_sungQ {l : Launch} {E : EnvT} {d : Nat} {K : AV → Mem → Prop} {M : Mem} {rc : Nat} {a b : Int} (hd : 3 ≤ d) (hF : FC M rc) (a1 : -2147483648 ≤ a) (a2 : a < 2147483648) (b1 : -2147483648 ≤ b) (b2 : b < 2147483648) (hn : ¬ (livesB (M rc) a = true ∧ noteB (M rc) a b = true) → K (.int (iN (-1)), 0) (stM M 1)) (hy : livesB (M rc) a = true → noteB (M rc) a b = true → K (.int (iN (sungC (M rc) a.toNat b.toNat)), 0) (stM M 0)) : CT l E d m_FN_sung [(.ref 0, 0), (.int (iN a), 0), (.int (iN b), 0)] M K := by
  refine CT.of pn_FN (Nat.le_of_ble_eq_true rfl) ?_
  have cl := hF.cl
  have hV := hF.2.2
  have hnn := hV.n
  refine b_FN_sung_0 (by omega) ?_
  rw [hF.eq]
  refine ⟨cl, c_lives (by omega) hV a1 a2 ?_⟩
  rw [toI_int, b2i_z, hF.eq]
  refine ⟨fun c => c_refuse (by omega) (by omega) (by omega) (hn (fun q => by rw [c] at q; exact absurd q.1 (by decide))), fun c => ?_⟩
  rw [Bool.not_eq_false] at c
  have t := livesB_spec c
  have kn : knowsB (M rc) a = true := decide_eq_true t
  obtain ⟨s, rfl⟩ : ∃ s : Nat, a = s := ⟨a.toNat, (by omega)⟩
  have s8 : s < 8 := (by omega)
  have le := hV.le s s8
  refine ⟨cl, c_hasNote (by omega) hV s8 b1 b2 ?_⟩
  rw [toI_int, b2i_z, hF.eq]
  refine ⟨fun c2 => ⟨cl, ?_⟩, fun c2 => c_refuse (by omega) (by omega) (by omega) (hn ?_)⟩
  · rw [Bool.not_eq_false] at c2
    have t2 := of_decide_eq_true c2
    obtain ⟨k, rfl⟩ : ∃ k : Nat, b = k := ⟨b.toNat, (by omega)⟩
    refine c_sungAt (by omega) hV s8 (by omega) (c_answer (by omega) (hy c ?_))
    unfold noteB
    rw [kn, show ((s : Int)).toNat = s from rfl, c2]
    rfl
  · intro q
    have := q.2
    unfold noteB at this
    rw [kn, show ((s : Int)).toNat = s from rfl, c2] at this
    cases this
theorem FC.up {M : Mem} {rc : Nat} (h : FC M rc) {c k : Nat} {v : Int} (hV : VB (upd2 (M rc) c k v)) : upd3 M rc c k v = setR M rc (upd2 (M rc) c k v) ∧ FC (upd3 M rc c k v) rc := by
  have e := upd3_setR M rc c k v
  refine ⟨e, ?_⟩
  rw [e]
  exact h.set hV
theorem c_wellQ {l : Launch} {E : EnvT} {d : Nat} {K : AV → Mem → Prop} {M : Mem} {rc : Nat} {a : Int} (hd : 3 ≤ d) (hF : FC M rc) (a1 : -2147483648 ≤ a) (a2 : a < 2147483648) (hn : livesB (M rc) a = false → K (.int (iN (-1)), 0) (stM M 1)) (h7 : livesB (M rc) a = true → inS (M rc 0 11) a.toNat = false → K (.int (iN (-1)), 0) (stM M 7)) (hy : livesB (M rc) a = true → inS (M rc 0 11) a.toNat = true → K (.int (iN (popc (clrB (M rc 0 11) a.toNat).toNat)), 0) (stM (setR M rc (upd2 (M rc) 0 11 (clrB (M rc 0 11) a.toNat))) 0)) : CT l E d m_FN_well [(.ref 0, 0), (.int (iN a), 0)] M K := by
  refine CT.of pn_FN (Nat.le_of_ble_eq_true rfl) ?_
  have cl := hF.cl
  have hV := hF.2.2
  have hnn := hV.n
  refine b_FN_well_0 (by omega) ?_
  rw [hF.eq]
  refine ⟨cl, c_lives (by omega) hV a1 a2 ?_⟩
  rw [toI_int, b2i_z, hF.eq]
  refine ⟨fun c => ⟨cl, ?_⟩, fun c => c_refuse (by omega) (by omega) (by omega) (hn c)⟩
  rw [Bool.not_eq_false] at c
  have t := livesB_spec c
  have m := hV.ms 11 (by omega) (by omega)
  obtain ⟨s, rfl⟩ : ∃ s : Nat, a = s := ⟨a.toNat, (by omega)⟩
  have s8 : s < 8 := (by omega)
  refine c_isIn (by omega) m.1 m.2 s8 ?_
  have q := clrB_rng (s := s) m.1 m.2 s8
  rw [toI_int, b2i_z, hF.eq, clr_bit m.1 m.2 s8, iN_small (by omega) (by omega)]
  have u := hF.up (VB_f11 hV q.1 q.2)
  rw [u.2.eq]
  refine ⟨fun c2 => ⟨cl, cl, ?_⟩, fun c2 => c_refuse (by omega) (by omega) (by omega) (h7 c c2)⟩
  rw [Bool.not_eq_false] at c2
  rw [u.1, setR_same, upd2_same]
  exact c_bitCount (by omega) q.1 q.2 (c_answer (by omega) (hy c c2))
theorem c_earnQ {l : Launch} {E : EnvT} {d : Nat} {K : AV → Mem → Prop} {M : Mem} {rc : Nat} {a b : Int} (hd : 2 ≤ d) (hF : FC M rc) (a1 : -2147483648 ≤ a) (a2 : a < 2147483648) (b1 : -2147483648 ≤ b) (b2 : b < 2147483648) (hn : ¬ (livesB (M rc) a = true ∧ 1 ≤ b ∧ b ≤ 999) → K (.int (iN (-1)), 0) (stM M 1)) (h7 : livesB (M rc) a = true → 1 ≤ b → b ≤ 999 → 9999 < M rc 2 a.toNat + b → K (.int (iN (-1)), 0) (stM M 7)) (hy : livesB (M rc) a = true → 1 ≤ b → b ≤ 999 → M rc 2 a.toNat + b ≤ 9999 → K (.int (iN (M rc 2 a.toNat + b)), 0) (stM (setR M rc (upd2 (M rc) 2 a.toNat (M rc 2 a.toNat + b))) 0)) : CT l E d m_FN_earn [(.ref 0, 0), (.int (iN a), 0), (.int (iN b), 0)] M K := by
  refine CT.of pn_FN (Nat.le_of_ble_eq_true rfl) ?_
  have cl := hF.cl
  have hV := hF.2.2
  have hnn := hV.n
  refine b_FN_earn_0 (by omega) ?_
  rw [hF.eq]
  refine ⟨cl, c_lives (by omega) hV a1 a2 ?_⟩
  rw [toI_int, b2i_z, hF.eq, iN_lt b1 b2 (by omega) (by omega), iN_le b1 b2 (by omega) (by omega)]
  refine ⟨fun c => c_refuse (by omega) (by omega) (by omega) (hn (fun q => by rw [c] at q; exact absurd q.1 (by decide))), fun c => ⟨fun c2 => c_refuse (by omega) (by omega) (by omega) (hn (fun q => by omega)), fun c2 => ⟨fun c3 => ⟨cl, ?_⟩, fun c3 => c_refuse (by omega) (by omega) (by omega) (hn (fun q => by omega))⟩⟩⟩
  rw [Bool.not_eq_false] at c
  have t := livesB_spec c
  obtain ⟨s, rfl⟩ : ∃ s : Nat, a = s := ⟨a.toNat, (by omega)⟩
  have pu := hV.pu s (by omega)
  rw [iN_clN (by omega), iN_add, iN_le (by omega) (by omega) (by omega) (by omega), iN_small (by omega) (by omega)]
  refine ⟨iN_in (by omega) (by omega) (by omega), fun c4 => ?_, fun c4 => c_refuse (by omega) (by omega) (by omega) (h7 c (by omega) (by omega) (by show (9999 : Int) < M rc 2 s + b; omega))⟩
  have u := hF.up (c := 2) (k := s) (v := M rc 2 s + b) (VB_2 hV (by omega) (by omega))
  rw [u.2.eq, u.1, setR_same, upd2_same]
  exact ⟨cl, iN_in (by omega) (by omega) (by omega), iN_in (by omega) (by omega) (by omega), cl, iN_in (by omega) (by omega) (by omega), c_answer (by omega) (hy c (by omega) (by omega) c4)⟩
theorem c_nameQ {l : Launch} {E : EnvT} {d : Nat} {K : AV → Mem → Prop} {M : Mem} {rc : Nat} {a b : Int} (hd : 2 ≤ d) (hF : FC M rc) (a1 : -2147483648 ≤ a) (a2 : a < 2147483648) (b1 : -2147483648 ≤ b) (b2 : b < 2147483648) (hn : ¬ (livesB (M rc) a = true ∧ a ≠ b ∧ (b = -1 ∨ livesB (M rc) b = true)) → K (.int (iN 0), 0) (stM M 1)) (hy : livesB (M rc) a = true → a ≠ b → (b = -1 ∨ livesB (M rc) b = true) → K (.int (iN 1), 0) (stM (setR M rc (upd2 (M rc) 3 a.toNat b)) 0)) : CT l E d m_FN_name [(.ref 0, 0), (.int (iN a), 0), (.int (iN b), 0)] M K := by
  refine CT.of pn_FN (Nat.le_of_ble_eq_true rfl) ?_
  have cl := hF.cl
  have hV := hF.2.2
  have hnn := hV.n
  refine b_FN_name_0 (by omega) ?_
  rw [hF.eq]
  refine ⟨cl, c_lives (by omega) hV a1 a2 ?_⟩
  rw [toI_int, b2i_z, hF.eq, iN_eq a1 a2 b1 b2, iN_eq b1 b2 (by omega) (by omega), iN_small b1 b2]
  refine ⟨fun c => c_deny (by omega) (by omega) (by omega) ⟨z01, hn (fun q => by rw [c] at q; exact absurd q.1 (by decide))⟩, fun c => ⟨fun c2 => c_deny (by omega) (by omega) (by omega) ⟨z01, hn (fun q => q.2.1 c2)⟩, fun c2 => ?_⟩⟩
  rw [Bool.not_eq_false] at c
  have t := livesB_spec c
  obtain ⟨s, rfl⟩ : ∃ s : Nat, a = s := ⟨a.toNat, (by omega)⟩
  rw [iN_clN (by omega), upd3_setR]
  refine ⟨fun c3 => ⟨cl, iN_in (by omega) (by omega) (by omega), c_agree (by omega) ⟨o01, hy c c2 (Or.inl c3)⟩⟩, fun c3 => ⟨cl, c_lives (by omega) hV b1 b2 ?_⟩⟩
  rw [toI_int, b2i_z, hF.eq, upd3_setR]
  refine ⟨fun c4 => ⟨cl, iN_in (by omega) (by omega) (by omega), c_agree (by omega) ⟨o01, hy c c2 (Or.inr (by rw [Bool.not_eq_false] at c4; exact c4))⟩⟩, fun c4 => c_deny (by omega) (by omega) (by omega) ⟨z01, hn (fun q => ?_)⟩⟩
  rcases q.2.2 with e | e
  · exact c3 e
  · rw [c4] at e; cases e
def measC (C : Ch) (z : Int) (s : Nat) : Int := if z = 0 then isOwC C s else if z = 1 then owesC C s else if livesB C s = true then freeC C s else 0
theorem freeC_rng (C : Ch) {s : Nat} (hV : VB C) (hs : s < 8) : 0 ≤ freeC C s ∧ freeC C s ≤ 6 := by
  have := hV.le s hs
  have := cntN_rng (fun k => C 6 (6 * s + k) == -1) (C 4 s).toNat
  unfold freeC
  omega
theorem measC_rng {C : Ch} (hV : VB C) (z : Int) {s : Nat} (hs : s < 8) : 0 ≤ measC C z s ∧ measC C z s ≤ 60000 := by
  have h1 := isOwC_rng hV hs
  have h2 := owesC_rng hV (s : Int)
  have h3 := freeC_rng C hV hs
  unfold measC
  split
  · exact h1
  · split
    · exact h2
    · split <;> omega
theorem c_measured {l : Launch} {E : EnvT} {d : Nat} {K : AV → Mem → Prop} {M : Mem} {rc : Nat} {z : Int} {s : Nat} (hd : 3 ≤ d) (hF : FC M rc) (z1 : 0 ≤ z) (z2 : z ≤ 2) (hs : s < 8) (h : K (.int (iN (measC (M rc) z s)), 0) M) : CT l E d m_FN_measured [(.ref 0, 0), (.int (iN s), 0), (.int (iN z), 0)] M K := by
  refine CT.of pn_FN (Nat.le_of_ble_eq_true rfl) ?_
  have cl := hF.cl
  have hV := hF.2.2
  refine b_FN_measured_0 (by omega) ?_
  unfold measC at h
  rw [hF.eq, iN_eq (by omega) (by omega) (by omega) (by omega), iN_eq (by omega) (by omega) (by omega) (by omega)]
  refine ⟨fun c => ⟨cl, c_isOwedInAll (by omega) hV hs ?_⟩, fun c => ⟨fun c2 => ⟨cl, c_owesInAll (by omega) hV (by omega) (by omega) ?_⟩, fun c2 => ⟨cl, c_lives (by omega) hV (by omega) (by omega) ?_⟩⟩⟩
  · rw [if_pos c] at h; exact h
  · rw [if_neg c, if_pos c2] at h; exact h
  · rw [if_neg c, if_neg c2] at h
    rw [toI_int, b2i_z, hF.eq]
    refine ⟨fun c3 => ?_, fun c3 => ⟨cl, c_freeNotes (by omega) hV hs ?_⟩⟩
    · rw [if_neg (by simp [c3])] at h; exact h
    · rw [if_pos (by simpa using c3)] at h; exact h
/-- the first place with the most, most so far m at b -/
def mostF (f : Nat → Int) : Nat → Nat → Int → Int → Int
  | 0, _, b, _ => b
  | k + 1, s, b, m => if m < f s then mostF f k (s + 1) s (f s) else mostF f k (s + 1) b m
theorem mostF_rng (f : Nat → Int) : ∀ (k s : Nat) (b m : Int), -1 ≤ b → b < s → -1 ≤ mostF f k s b m ∧ mostF f k s b m < s + k
  | 0, s, b, m, h1, h2 => ⟨h1, by show b < _; omega⟩
  | k + 1, s, b, m, h1, h2 => by
    unfold mostF
    split
    · have := mostF_rng f k (s + 1) s (f s) (by omega) (by omega)
      omega
    · have := mostF_rng f k (s + 1) b m h1 (by omega)
      omega
theorem c_mostQ {l : Launch} {E : EnvT} {d : Nat} {K : AV → Mem → Prop} {M : Mem} {rc : Nat} {z : Int} (hd : 4 ≤ d) (hF : FC M rc) (z1 : 0 ≤ z) (z2 : z ≤ 2) (h : K (.int (iN (ansOr (mostF (measC (M rc) z) (M rc 0 8).toNat 0 (-1) 0) 6).1), 0) (stM M (ansOr (mostF (measC (M rc) z) (M rc 0 8).toNat 0 (-1) 0) 6).2)) : CT l E d m_FN_firstWithMost [(.ref 0, 0), (.int (iN z), 0)] M K := by
  refine CT.of pn_FN (Nat.le_of_ble_eq_true rfl) ?_
  have cl := hF.cl
  have hV := hF.2.2
  have hnn := hV.n
  obtain ⟨n, hn⟩ : ∃ n : Nat, M rc 0 8 = n := ⟨(M rc 0 8).toNat, (by omega)⟩
  rw [hn, show ((n : Int)).toNat = n from rfl] at h
  have key : ∀ (k s : Nat) (b m : Int), s + k = n → -1 ≤ b → b < s → 0 ≤ m → m ≤ 60000 → mostF (measC (M rc) z) n 0 (-1) 0 = mostF (measC (M rc) z) k s b m → G l E d m_FN_firstWithMost 7 [(0, (.ref 0, 0)), (1, (.int (iN z), 0)), (2, (.int (iN b), 0)), (3, (.int (iN m), 0)), (4, (.int (iN s), 0))] [] M K := by
    intro k
    induction k with
    | zero =>
      intro s b m hs b1 b2 m1 m2 he
      refine b_FN_firstWithMost_7 (by omega) ?_
      rw [hF.eq, hn]
      refine ⟨cl, fun _ => c_answerOr (by omega) (by omega) (by omega) (by omega) (by omega) ?_, fun c => absurd ((iN_le (by omega) (by omega) (by omega) (by omega)).mpr (by omega)) c⟩
      rw [he] at h
      exact h
    | succ k ih =>
      intro s b m hs b1 b2 m1 m2 he
      have mr := measC_rng hV z (s := s) (by omega)
      have he : _ = (if m < measC (M rc) z s then mostF (measC (M rc) z) k (s + 1) s (measC (M rc) z s) else mostF (measC (M rc) z) k (s + 1) b m) := he
      refine b_FN_firstWithMost_7 (by omega) ?_
      rw [hF.eq, hn]
      refine ⟨cl, fun c => absurd ((iN_le (by omega) (by omega) (by omega) (by omega)).mp c) (by omega), fun _ => c_measured (by omega) hF z1 z2 (by omega) ?_⟩
      rw [toI_int, iN_le (by omega) (by omega) (by omega) (by omega), iN_add]
      refine ⟨fun c => ih (s + 1) b m (by omega) b1 (by omega) m1 m2 ?_, fun c => ih (s + 1) s _ (by omega) (by omega) (by omega) (by omega) (by omega) ?_⟩
      · rw [if_neg (by omega)] at he; exact he
      · rw [if_pos (by omega)] at he; exact he
  exact b_FN_firstWithMost_0 (by omega) (key n 0 (-1) 0 (by omega) (by omega) (by omega) (by omega) (by omega) rfl)
theorem c_richestQ {l : Launch} {E : EnvT} {d : Nat} {K : AV → Mem → Prop} {M : Mem} {rc : Nat} (hd : 5 ≤ d) (hF : FC M rc) (h : K (.int (iN (ansOr (mostF (measC (M rc) 0) (M rc 0 8).toNat 0 (-1) 0) 6).1), 0) (stM M (ansOr (mostF (measC (M rc) 0) (M rc 0 8).toNat 0 (-1) 0) 6).2)) : CT l E d m_FN_richest [(.ref 0, 0)] M K := by
  refine CT.of pn_FN (Nat.le_of_ble_eq_true rfl) ?_
  exact b_FN_richest_0 (by omega) (c_mostQ (by omega) hF (by omega) (by omega) h)
theorem c_deepestQ {l : Launch} {E : EnvT} {d : Nat} {K : AV → Mem → Prop} {M : Mem} {rc : Nat} (hd : 5 ≤ d) (hF : FC M rc) (h : K (.int (iN (ansOr (mostF (measC (M rc) 1) (M rc 0 8).toNat 0 (-1) 0) 6).1), 0) (stM M (ansOr (mostF (measC (M rc) 1) (M rc 0 8).toNat 0 (-1) 0) 6).2)) : CT l E d m_FN_deepest [(.ref 0, 0)] M K := by
  refine CT.of pn_FN (Nat.le_of_ble_eq_true rfl) ?_
  exact b_FN_deepest_0 (by omega) (c_mostQ (by omega) hF (by omega) (by omega) h)
theorem c_roomiestQ {l : Launch} {E : EnvT} {d : Nat} {K : AV → Mem → Prop} {M : Mem} {rc : Nat} (hd : 5 ≤ d) (hF : FC M rc) (h : K (.int (iN (ansOr (mostF (measC (M rc) 2) (M rc 0 8).toNat 0 (-1) 0) 6).1), 0) (stM M (ansOr (mostF (measC (M rc) 2) (M rc 0 8).toNat 0 (-1) 0) 6).2)) : CT l E d m_FN_roomiest [(.ref 0, 0)] M K := by
  refine CT.of pn_FN (Nat.le_of_ble_eq_true rfl) ?_
  exact b_FN_roomiest_0 (by omega) (c_mostQ (by omega) hF (by omega) (by omega) h)
