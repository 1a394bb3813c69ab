def endC (Y L : Ch) (i : Nat) : Int × Ch := if Y 1 (Y 6 i).toNat = 19 ∧ 0 < L 1 (Y 6 i).toNat then (Y 6 i + 1, upd2 L 1 (Y 6 i).toNat (L 1 (Y 6 i).toNat - 1)) else ((i : Int) + 1, L)
theorem c_behindEnd {l : Launch} {E : EnvT} {d : Nat} {K : AV → Mem → Prop} {M : Mem} {r rc ry i : Nat} {L C : Ch} (hd : 1 ≤ d) (h1 : r ≠ rc) (h2 : ry ≠ r) (h3 : ry ≠ rc) (hY : YV (M ry)) (hL : LI L) (hi : i < 60) (h : K (.int (iN (endC (M ry) L i).1), 0) (setR (setR M r (endC (M ry) L i).2) rc C)) : CT l E d m_Life_behindEnd [(.ref r, 37), (.ref ry, 23), (.int (iN i), 0)] (setR (setR M r L) rc C) K := by
  refine CT.of pn_Life (Nat.le_of_ble_eq_true rfl) ?_
  obtain ⟨y1, y2, y3, y4, y5, y6⟩ := hY i hi
  obtain ⟨p, hp⟩ : ∃ p : Nat, M ry 6 i = p := ⟨(M ry 6 i).toNat, (by omega)⟩
  have z1 := (hY p (by omega)).1
  have t1 := hL.2.2.2 p (by omega)
  refine b_Life_behindEnd_0 hd ?_
  rw [mm_o _ _ _ h2 h3, mm_r _ _ _ h1, iN_clN (by omega), hp, iN_clN (by omega)]
  simp (disch := omega) only [iN_eq, iN_le0]
  unfold endC at h
  rw [hp, show ((p : Int)).toNat = p from rfl] at h
  refine ⟨iN_in (by omega) (by omega) (by omega), iN_in (by omega) (by omega) (by omega), fun c => ?_, fun c => ⟨iN_in (by omega) (by omega) (by omega), fun c2 => ?_, fun c2 => ⟨iN_in (by omega) (by omega) (by omega), iN_in (by omega) (by omega) (by omega), ?_⟩⟩⟩
  · rw [if_neg (fun q => c q.1)] at h
    rw [iN_add]; exact h
  · rw [if_neg (fun q => by omega)] at h
    rw [iN_add]; exact h
  · rw [if_pos ⟨c, by omega⟩] at h
    rw [iN_add, iN_sub, iN_small (by omega) (by omega), mm_upd _ _ _ _ _ _ h1]
    exact h
def lifeDo (Y L C : Ch) (i : Nat) : Bool × Ch × Ch :=
  if Y 1 i = 3 then (decide ((coldC C (Y 2 i)).1 ≠ -1), L, (coldC C (Y 2 i)).2)
  else if Y 1 i = 9 then ((lendC C (Y 2 i) (Y 3 i) (Y 4 i)).1, upd2 L 0 4 (wr (L 0 4 + if (lendC C (Y 2 i) (Y 3 i) (Y 4 i)).1 then Y 4 i else 0)), (lendC C (Y 2 i) (Y 3 i) (Y 4 i)).2)
  else if Y 1 i = 11 then ((payC C (Y 2 i) (Y 3 i) (Y 4 i)).1, L, (payC C (Y 2 i) (Y 3 i) (Y 4 i)).2)
  else if Y 1 i = 12 then ((sunC C).1, upd2 L 0 6 (wr (L 0 6 + if (sunC C).1 then 1 else 0)), (sunC C).2)
  else if Y 1 i = 13 then ((buryC C (Y 2 i)).1, L, (buryC C (Y 2 i)).2)
  else if Y 1 i = 14 then (decide (0 < (netC C (Y 2 i) (Y 3 i)).1), L, (netC C (Y 2 i) (Y 3 i)).2)
  else if Y 1 i = 19 then (true, upd2 L 1 i (Y 4 i - 1), C)
  else anyC L C
def missC (q : Bool × Ch × Ch) : Ch := upd2 q.2.1 0 3 (wr (q.2.1 0 3 + if q.1 then 0 else 1))
def stepC2 (Y L C : Ch) (i : Nat) : Int × Ch × Ch :=
  if Y 1 i = 1 ∨ Y 1 i = 17 ∨ Y 1 i = 18 then (if holdsB Y C i then (i : Int) + 1 else Y 6 i + 1, L, C)
  else if Y 1 i = 21 then (Y 0 6, L, C)
  else ((i : Int) + 1, missC (lifeDo Y L C i), (lifeDo Y L C i).2.2)
theorem c_miss {l : Launch} {E : EnvT} {d : Nat} {K : AV → Mem → Prop} {M : Mem} {r rc i : Nat} {L C : Ch} {b : Bool} (hd : 1 ≤ d) (h1 : r ≠ rc) (h : K (.int (iN ((i : Int) + 1)), 0) (setR (setR M r (missC (b, L, C))) rc C)) : G l E d m_Life_behindStep 311 [(0, (.ref r, 37)), (3, (.int (iN i), 0)), (7, (.int (iN (b2i b)), 0))] [] (setR (setR M r L) rc C) K := by
  refine b_Life_behindStep_311 hd ?_
  unfold missC at h
  rw [b2i_z, mm_r _ _ _ h1, wr_iN, wr_iN, mm_upd _ _ _ _ _ _ h1, mm_upd _ _ _ _ _ _ h1, iN_add]
  refine ⟨fun c => ?_, fun c => ?_⟩
  · rw [c] at h; exact h
  · rw [Bool.not_eq_false] at c
    rw [c] at h; exact h
theorem netC_rng {C : Ch} (hV : VB C) {a b : Int} : 0 ≤ (netC C a b).1 ∧ (netC C a b).1 ≤ 999 := by
  unfold netC
  split
  · rename_i c
    have t := twoB_spec c.1
    have n := hV.n
    have s1 := slotOf_rng hV a (b := b.toNat) (by omega)
    have s2 := slotOf_rng hV b (b := a.toNat) (by omega)
    rcases s1 with e | ⟨i, e1, _, _, e4, _⟩
    · exact absurd e c.2.1
    · rcases s2 with e | ⟨j, f1, _, _, f4, _⟩
      · exact absurd e c.2.2
      · have d1 := hV.de i e4
        have d2 := hV.de j f4
        rw [e1, f1]
        show 0 ≤ min (C 7 i) (C 7 j) ∧ min (C 7 i) (C 7 j) ≤ 999
        omega
  · exact ⟨show (0 : Int) ≤ 0 by omega, show (0 : Int) ≤ 999 by omega⟩
theorem coldC_rng (C : Ch) (z : Int) : -2147483648 ≤ (coldC C z).1 ∧ (coldC C z).1 < 2147483648 := by
  unfold coldC
  split
  · exact wr_rng _
  · exact ⟨show (-2147483648 : Int) ≤ -1 by omega, show (-1 : Int) < 2147483648 by omega⟩
theorem c_behindStep {l : Launch} {E : EnvT} {d : Nat} {K : AV → Mem → Prop} {M : Mem} {r rc ry i : Nat} {L C : Ch} (hd : 6 ≤ d) (h1 : r ≠ rc) (h2 : ry ≠ r) (h3 : ry ≠ rc) (hV : VB C) (hY : YV (M ry)) (hT : YT (M ry) i) (hL : LI L) (hi : i < 60) (h : K (.int (iN (stepC2 (M ry) L C i).1), 0) (setR (setR M r (stepC2 (M ry) L C i).2.1) rc (stepC2 (M ry) L C i).2.2)) : CT l E d m_Life_behindStep [(.ref r, 37), (.ref rc, 11), (.ref ry, 23), (.int (iN i), 0)] (setR (setR M r L) rc C) K := by
  refine CT.of pn_Life (Nat.le_of_ble_eq_true rfl) ?_
  obtain ⟨y1, y2, y3, y4, y5, y6⟩ := hY i hi
  have eY : setR (setR M r L) rc C ry = M ry := mm_o _ _ _ h2 h3
  have hol : (M ry 1 i = 1 ∨ M ry 1 i = 17 ∨ M ry 1 i = 18) → CT l E (d - 1) m_Life_holds [(.ref rc, 11), (.ref ry, 23), (.int (iN i), 0)] (setR (setR M r L) rc C) (fun v20 M20 => ((toI v20 = 0 → (vp_in (iN i) 60 ∧ K (.int ((iN (M20 ry 6 i)) + (iN 1)), 0) M20)) ∧ (¬ toI v20 = 0 → K (.int (iN i + (iN 1)), 0) M20))) := by
    intro hk
    refine c_holds (by omega) (by rw [setR_same]; exact hV) (by rw [eY]; exact hY) hi (by rw [eY]; exact hT) (by rw [eY]; exact hk) ?_
    unfold stepC2 at h
    rw [if_pos hk] at h
    rw [eY, setR_same, toI_int, b2i_z, iN_add, iN_add]
    refine ⟨fun c => ⟨iN_in (by omega) (by omega) (by omega), ?_⟩, fun c => ?_⟩
    · rw [c] at h; exact h
    · rw [Bool.not_eq_false] at c
      rw [c] at h; exact h
  have fin : ¬ (M ry 1 i = 1 ∨ M ry 1 i = 17 ∨ M ry 1 i = 18) → M ry 1 i ≠ 21 → K (.int (iN ((i : Int) + 1)), 0) (setR (setR M r (missC (lifeDo (M ry) L C i))) rc (lifeDo (M ry) L C i).2.2) := by
    intro c1 c2
    unfold stepC2 at h
    rw [if_neg c1, if_neg c2] at h
    exact h
  have any : ¬ (M ry 1 i = 1 ∨ M ry 1 i = 17 ∨ M ry 1 i = 18) → M ry 1 i ≠ 21 → M ry 1 i ≠ 3 → M ry 1 i ≠ 9 → M ry 1 i ≠ 11 → M ry 1 i ≠ 12 → M ry 1 i ≠ 13 → M ry 1 i ≠ 14 → M ry 1 i ≠ 19 → CT l E (d - 1) m_Life_lendAny [(.ref r, 37), (.ref rc, 11)] (setR (setR M r L) rc C) (fun v19 M19 => G l E d m_Life_behindStep 311 [(0, (.ref r, 37)), (3, (.int (iN i), 0)), (7, (.int (toI v19), 0))] [] M19 K) := by
    intro a1 a2 a3 a4 a5 a6 a7 a8 a9
    have f := fin a1 a2
    unfold lifeDo at f
    rw [if_neg a3, if_neg a4, if_neg a5, if_neg a6, if_neg a7, if_neg a8, if_neg a9] at f
    exact c_lendAny (by omega) h1 hV hL (c_miss (by omega) h1 f)
  refine b_Life_behindStep_0 (by omega) ?_
  rw [eY, iN_clN (by omega)]
  have ek : ∀ j : Int, -100 ≤ j → j ≤ 100 → (iN (M ry 1 i) = iN j ↔ M ry 1 i = j) := fun j j1 j2 => iN_eq (by omega) (by omega) (by omega) (by omega)
  rw [ek 1 (by omega) (by omega), ek 2 (by omega) (by omega), ek 3 (by omega) (by omega), ek 4 (by omega) (by omega), ek 5 (by omega) (by omega), ek 6 (by omega) (by omega), ek 7 (by omega) (by omega), ek 8 (by omega) (by omega), ek 9 (by omega) (by omega), ek 10 (by omega) (by omega), ek 11 (by omega) (by omega), ek 12 (by omega) (by omega), ek 13 (by omega) (by omega), ek 14 (by omega) (by omega), ek 15 (by omega) (by omega), ek 16 (by omega) (by omega), ek 17 (by omega) (by omega), ek 18 (by omega) (by omega), ek 19 (by omega) (by omega), ek 20 (by omega) (by omega), ek 21 (by omega) (by omega)]
  refine ⟨iN_in (by omega) (by omega) (by omega), iN_in (by omega) (by omega) (by omega), iN_in (by omega) (by omega) (by omega), iN_in (by omega) (by omega) (by omega), fun e => hol (by omega), fun n1 => ⟨fun e => any (by omega) (by omega) (by omega) (by omega) (by omega) (by omega) (by omega) (by omega) (by omega), fun n2 => ⟨fun e => ?_, fun n3 => ⟨fun e => any (by omega) (by omega) (by omega) (by omega) (by omega) (by omega) (by omega) (by omega) (by omega), fun n4 => ⟨fun e => any (by omega) (by omega) (by omega) (by omega) (by omega) (by omega) (by omega) (by omega) (by omega), fun n5 => ⟨fun e => any (by omega) (by omega) (by omega) (by omega) (by omega) (by omega) (by omega) (by omega) (by omega), fun n6 => ⟨fun e => any (by omega) (by omega) (by omega) (by omega) (by omega) (by omega) (by omega) (by omega) (by omega), fun n7 => ⟨fun e => any (by omega) (by omega) (by omega) (by omega) (by omega) (by omega) (by omega) (by omega) (by omega), fun n8 => ⟨fun e => ?_, fun n9 => ⟨fun e => any (by omega) (by omega) (by omega) (by omega) (by omega) (by omega) (by omega) (by omega) (by omega), fun n10 => ⟨fun e => ?_, fun n11 => ⟨fun e => ?_, fun n12 => ⟨fun e => ?_, fun n13 => ⟨fun e => ?_, fun n14 => ⟨fun e => any (by omega) (by omega) (by omega) (by omega) (by omega) (by omega) (by omega) (by omega) (by omega), fun n15 => ⟨fun e => any (by omega) (by omega) (by omega) (by omega) (by omega) (by omega) (by omega) (by omega) (by omega), fun n16 => ⟨fun e => hol (by omega), fun n17 => ⟨fun e => hol (by omega), fun n18 => ⟨fun e => ⟨iN_in (by omega) (by omega) (by omega), ?_⟩, fun n19 => ⟨fun e => any (by omega) (by omega) (by omega) (by omega) (by omega) (by omega) (by omega) (by omega) (by omega), fun n20 => ⟨fun e => ?_, fun n21 => any (by omega) (by omega) (by omega) (by omega) (by omega) (by omega) (by omega) (by omega) (by omega)⟩⟩⟩⟩⟩⟩⟩⟩⟩⟩⟩⟩⟩⟩⟩⟩⟩⟩⟩⟩⟩
  · have f := fin (by omega) (by omega)
    unfold lifeDo at f
    rw [if_pos e] at f
    have cr := coldC_rng C (M ry 2 i)
    refine c_catchCold (by omega) hV (by omega) (by omega) ?_
    rw [toI_int, iN_eq cr.1 cr.2 (by omega) (by omega)]
    refine ⟨fun c => ?_, fun c => ?_⟩
    · rw [decide_eq_false (by omega)] at f
      exact c_miss (b := false) (by omega) h1 f
    · rw [decide_eq_true c] at f
      exact c_miss (b := true) (by omega) h1 f
  · have f := fin (by omega) (by omega)
    unfold lifeDo at f
    rw [if_neg (by omega), if_pos e] at f
    have t := hT.1 e
    refine c_lendCoins (by omega) hV (by omega) (by omega) (by omega) (by omega) (by omega) (by omega) ?_
    rw [toI_int, b2i_z, mm_r _ _ _ h1, wr_iN, wr_iN, mm_upd _ _ _ _ _ _ h1, mm_upd _ _ _ _ _ _ h1]
    refine ⟨fun c => c_miss (by omega) h1 ?_, fun c => c_miss (by omega) h1 ?_⟩
    · rw [c] at f ⊢; exact f
    · rw [Bool.not_eq_false] at c
      rw [c] at f ⊢; exact f
  · have f := fin (by omega) (by omega)
    unfold lifeDo at f
    rw [if_neg (by omega), if_neg (by omega), if_pos e] at f
    exact c_payCoins (by omega) hV (by omega) (by omega) (by omega) (by omega) (by omega) (by omega) (c_miss (by omega) h1 f)
  · have f := fin (by omega) (by omega)
    unfold lifeDo at f
    rw [if_neg (by omega), if_neg (by omega), if_neg (by omega), if_pos e] at f
    refine c_keepSunday (by omega) hV ?_
    rw [toI_int, b2i_z, mm_r _ _ _ h1, wr_iN, wr_iN, mm_upd _ _ _ _ _ _ h1, mm_upd _ _ _ _ _ _ h1]
    refine ⟨fun c => c_miss (by omega) h1 ?_, fun c => c_miss (by omega) h1 ?_⟩
    · rw [c] at f ⊢; exact f
    · rw [Bool.not_eq_false] at c
      rw [c] at f ⊢; exact f
  · have f := fin (by omega) (by omega)
    unfold lifeDo at f
    rw [if_neg (by omega), if_neg (by omega), if_neg (by omega), if_neg (by omega), if_pos e] at f
    exact c_bury (by omega) hV (by omega) (by omega) (c_miss (by omega) h1 f)
  · have f := fin (by omega) (by omega)
    unfold lifeDo at f
    rw [if_neg (by omega), if_neg (by omega), if_neg (by omega), if_neg (by omega), if_neg (by omega), if_pos e] at f
    have nr := netC_rng hV (a := M ry 2 i) (b := M ry 3 i)
    refine c_netTwo (by omega) hV (by omega) (by omega) (by omega) (by omega) ?_
    rw [toI_int, iN_le0 (by omega) (by omega)]
    refine ⟨fun c => ?_, fun c => ?_⟩
    · rw [decide_eq_false (by omega)] at f
      exact c_miss (b := false) (by omega) h1 f
    · rw [decide_eq_true (by omega)] at f
      exact c_miss (b := true) (by omega) h1 f
  · have f := fin (by omega) (by omega)
    unfold lifeDo at f
    rw [if_neg (by omega), if_neg (by omega), if_neg (by omega), if_neg (by omega), if_neg (by omega), if_neg (by omega), if_pos e] at f
    rw [iN_sub, iN_small (by omega) (by omega), mm_upd _ _ _ _ _ _ h1]
    exact c_miss (b := true) (by omega) h1 f
  · unfold stepC2 at h
    rw [if_neg (by omega), if_pos e] at h
    exact h
