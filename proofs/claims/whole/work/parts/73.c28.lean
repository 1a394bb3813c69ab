theorem c_chordsQ {l : Launch} {E : EnvT} {d : Nat} {K : AV → Mem → Prop} {M : Mem} {rc : Nat} (hd : 5 ≤ d) (hF : FC M rc) (h : K (.int (iN (netAllC (M rc)).1), 0) (stM (setR M rc (netAllC (M rc)).2) 0)) : CT l E d m_FN_chords [(.ref 0, 0)] M K := by
  refine CT.of pn_FN (Nat.le_of_ble_eq_true rfl) ?_
  have hV := hF.2.2
  refine b_FN_chords_0 (by omega) ?_
  rw [hF.eq]
  refine ⟨hF.cl, ?_⟩
  have := c_netAll (l := l) (E := E) (d := d - 1) (M := M) (r := rc) (K := fun v1 M1 => CT l E (d - 1) m_FN_answer [(.ref 0, 0), (.int (toI v1), 0)] M1 (fun v2 M2 => K (.int (toI v2), 0) M2)) (by omega) hV (c_answer (by omega) h)
  rw [setR_self] at this
  exact this
theorem c_payingsQ {l : Launch} {E : EnvT} {d : Nat} {K : AV → Mem → Prop} {M : Mem} {rc n : Nat} (hd : 5 ≤ d) (hF : FC M rc) (hn : M rc 0 8 = n) (h : ∀ T T' : Ch, LK T (M rc) n → K (.int (iN (popc (unM (T 1) n) - BP (T 1) n (unM (T 1) n))), 0) (stM (setR M 12 T') 0)) : CT l E d m_FN_payings [(.ref 0, 0)] M K := by
  refine CT.of pn_FN (Nat.le_of_ble_eq_true rfl) ?_
  have hV := hF.2.2
  have h8 := hV.n
  have hr := hF.2.1
  refine b_FN_payings_0 (by omega) ?_
  rw [hF.eq]
  refine ⟨hF.cl, c_look (by omega) (by omega) hV hn (fun T hT => ?_)⟩
  refine c_unevenCount (n := n) (by omega) (by rw [setR_same]; exact hT.1) (by omega) (by rw [setR_same]; exact hT.b hV (by omega)) ?_
  refine c_mostParts (by omega) hT.1 (by omega) (hT.b hV (by omega)) (fun T' _ => c_answer (by omega) ?_)
  simp only [toI_int, setR_same, iN_sub]
  exact h T T' hT
def humQ (C : Ch) (z : Int) : (Bool × Int) × Ch := if inB z 50 then ((true, 0), upd2 C 0 13 z) else ((false, 1), C)
theorem c_humQ {l : Launch} {E : EnvT} {d : Nat} {K : AV → Mem → Prop} {M : Mem} {rc : Nat} {z : Int} (hd : 2 ≤ d) (hF : FC M rc) (z1 : -2147483648 ≤ z) (z2 : z < 2147483648) (h : K (.int (iN (b2i (humQ (M rc) z).1.1)), 0) (stM (setR M rc (humQ (M rc) z).2) (humQ (M rc) z).1.2)) : CT l E d m_FN_hum [(.ref 0, 0), (.int (iN z), 0)] M K := by
  refine CT.of pn_FN (Nat.le_of_ble_eq_true rfl) ?_
  refine b_FN_hum_0 (by omega) ?_
  unfold humQ inB at h
  rw [hF.eq, iN_lt0 z1 z2, iN_le z1 z2 (by omega) (by omega), iN_small z1 z2, upd3_setR]
  refine ⟨fun c => c_deny (by omega) (by omega) (by omega) ⟨z01, ?_⟩, fun c => ⟨fun c2 => ⟨hF.cl, c_agree (by omega) ⟨o01, ?_⟩⟩, fun c2 => c_deny (by omega) (by omega) (by omega) ⟨z01, ?_⟩⟩⟩
  · rw [decide_eq_false (by omega), if_neg (by simp), setR_self] at h; exact h
  · rw [decide_eq_true (by omega), if_pos rfl] at h; exact h
  · rw [decide_eq_false (by omega), if_neg (by simp), setR_self] at h; exact h
