/-- the text, the class's and the reference's -/
def XR (F Z : Ch) : Prop := Z 0 10 = F 0 16 ∧ ∀ j, j < 900 → Z 6 j = F 2 j
def ZX (Z Z' : Ch) : Prop := ∀ c k, c ≠ 6 → ¬ (c = 0 ∧ k = 10) → Z' c k = Z c k
theorem ZX.rf (Z : Ch) : ZX Z Z := fun _ _ _ _ => rfl
theorem ZX.tr {Z Z' Z'' : Ch} (h : ZX Z Z') (h' : ZX Z' Z'') : ZX Z Z'' := fun c k a b => by rw [h' c k a b, h c k a b]
theorem four_st {l : Launch} {E : EnvT} {d : Nat} {K : AV → Mem → Prop} {M : Mem} {Z : Ch} {A : Nat → Int} {x : Int32} {p s : Nat} (hd : 1 ≤ d) (hp : Z 0 10 = p) (p9 : p < 900) (hs : s < 25) (h : G l E d m_Mod_four 3 [(0, (.ref 24, 41)), (1, (.int x, 0)), (2, (.int (iN ((s : Int) + -8)), 0))] [] (zA M (upd2 (upd2 Z 6 p (byt x s)) 0 10 ((p + 1 : Nat) : Int)) A) K) : G l E d m_Mod_four 3 [(0, (.ref 24, 41)), (1, (.int x, 0)), (2, (.int (iN (s : Int)), 0))] [] (zA M Z A) K := by
  refine b_Mod_four_3 (by omega) ⟨fun c => absurd ((iN_lt0 (by omega) (by omega)).mp c) (by omega), fun _ => ?_⟩
  have eb : ((x >>> (iN (s : Int) &&& 31)).toInt8.toInt32).toInt8.toInt32.toInt = byt x s := rfl
  have e0 : upd2 Z 6 p (byt x s) 0 10 = p := by rw [upd2_c _ _ (by decide)]; exact hp
  rw [zA_0, hp, iN_clN (by omega), eb, zA_uo M Z A (show 6 ≠ 1 by decide), zA_0, e0, iN_add, iN_add, zA_u0, show (p : Int) + 1 = ((p + 1 : Nat) : Int) from rfl, iN_small (by omega) (by omega)]
  exact ⟨iN_in (by omega) (by omega) (by omega), h⟩
theorem r_four {l : Launch} {E : EnvT} {d : Nat} {K : AV → Mem → Prop} {M : Mem} {F Z : Ch} {A : Nat → Int} {x : Int32} (hd : 1 ≤ d) (p1 : 0 ≤ F 0 16) (p2 : F 0 16 + 4 ≤ 900) (hx : XR F Z) (h : ∀ Z', XR (spF F x) Z' → ZX Z Z' → K (.null, 0) (zA M Z' A)) : CT l E d m_Mod_four [(.ref 24, 41), (.int x, 0)] (zA M Z A) K := by
  refine CT.of pn_Mod (Nat.le_of_ble_eq_true rfl) ?_
  obtain ⟨p, hp⟩ : ∃ p : Nat, F 0 16 = p := ⟨(F 0 16).toNat, (by omega)⟩
  have e0 : Z 0 10 = p := by rw [hx.1]; exact hp
  refine b_Mod_four_0 (by omega) (four_st (p := p) (s := 24) (by omega) e0 (by omega) (by omega) (four_st (p := p + 1) (s := 16) (by omega) ?_ (by omega) (by omega) (four_st (p := p + 2) (s := 8) (by omega) ?_ (by omega) (by omega) (four_st (p := p + 3) (s := 0) (by omega) ?_ (by omega) (by omega) ?_))))
  · rw [upd2_same]
  · rw [upd2_same]
  · rw [upd2_same]
  refine b_Mod_four_3 (by omega) ⟨fun _ => h _ ⟨?_, fun j hj => ?_⟩ (fun c k h6 h0 => ?_), fun c => absurd ((iN_lt0 (by omega) (by omega)).mpr (by omega)) c⟩
  · rw [upd2_same, spF_16, hp]; push_cast; omega
  · unfold spF
    rw [hp, show ((p : Int)).toNat = p from rfl, upd2_c _ _ (show 2 ≠ 0 by decide), upd2_at, upd2_at, upd2_at, upd2_at, upd2_c _ _ (show 6 ≠ 0 by decide), upd2_at, upd2_c _ _ (show 6 ≠ 0 by decide), upd2_at, upd2_c _ _ (show 6 ≠ 0 by decide), upd2_at, upd2_c _ _ (show 6 ≠ 0 by decide), upd2_at, hx.2 j hj]
  · by_cases c0 : c = 0
    · subst c0
      have k10 : k ≠ 10 := fun q => h0 ⟨rfl, q⟩
      rw [upd2_k _ _ k10, upd2_c _ _ h6, upd2_k _ _ k10, upd2_c _ _ h6, upd2_k _ _ k10, upd2_c _ _ h6, upd2_k _ _ k10, upd2_c _ _ h6]
    · rw [upd2_c _ _ c0, upd2_c _ _ h6, upd2_c _ _ c0, upd2_c _ _ h6, upd2_c _ _ c0, upd2_c _ _ h6, upd2_c _ _ c0, upd2_c _ _ h6]
theorem r_feed {l : Launch} {E : EnvT} {d : Nat} {K : AV → Mem → Prop} {M : Mem} {F Z : Ch} {A : Nat → Int} {x1 x2 x3 x4 x5 : Int32} (hd : 2 ≤ d) (hx : XR F Z) (p1 : 0 ≤ F 0 16) (p2 : F 0 16 ≤ 900) (hn : 880 < F 0 16 → K (.int (iN (-1)), 0) (zA M Z A)) (hy : F 0 16 ≤ 880 → ∀ Z', XR (spF (spF (spF (spF (spF F x1) x2) x3) x4) x5) Z' → ZX Z Z' → K (.int (iN (F 0 16 + 20)), 0) (zA M Z' A)) : CT l E d m_Mod_feed [(.ref 24, 41), (.int x1, 0), (.int x2, 0), (.int x3, 0), (.int x4, 0), (.int x5, 0)] (zA M Z A) K := by
  refine CT.of pn_Mod (Nat.le_of_ble_eq_true rfl) ?_
  refine b_Mod_feed_0 (by omega) ?_
  rw [zA_0, hx.1, iN_add, iN_le (by omega) (by omega) (by omega) (by omega)]
  refine ⟨fun c => ?_, fun c => hn (by omega)⟩
  have hy := hy (by omega)
  refine r_four (by omega) p1 (by omega) hx (fun Z1 h1 f1 => r_four (by omega) ?_ ?_ h1 (fun Z2 h2 f2 => r_four (by omega) ?_ ?_ h2 (fun Z3 h3 f3 => r_four (by omega) ?_ ?_ h3 (fun Z4 h4 f4 => r_four (by omega) ?_ ?_ h4 (fun Z5 h5 f5 => ?_)))))
  all_goals try simp only [spF_16]
  all_goals try omega
  rw [zA_0, h5.1]
  simp only [spF_16]
  rw [show F 0 16 + 4 + 4 + 4 + 4 + 4 = F 0 16 + 20 by omega]
  exact hy Z5 h5 ((((f1.tr f2).tr f3).tr f4).tr f5)
