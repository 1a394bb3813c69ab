def ZW (Z Z' : Ch) : Prop := ∀ c k, ¬ (c = 0 ∧ ((10 ≤ k ∧ k ≤ 19) ∨ k = 23 ∨ k = 24)) → c ≠ 7 → c ≠ 8 → Z' c k = Z c k
theorem YP.u8 {Y : Ch} {n v : Int} (h : YP Y n) : YP (upd2 Y 0 8 v) n := by
  have e6 : upd2 Y 0 8 v 0 6 = Y 0 6 := upd2_k _ _ (by decide)
  have e : ∀ c, c ≠ 0 → upd2 Y 0 8 v c = Y c := fun c hc => upd2_c _ _ hc
  unfold YP YN YPi YT YQ opn at h ⊢
  rw [e6, e 1 (by omega), e 2 (by omega), e 3 (by omega), e 4 (by omega), e 6 (by omega)]
  exact h
theorem RYr.mk {Y : Ch} {A A' : Nat → Int} {i : Nat} (hY : YV Y) (hi : i < 60) (h : RYx Y A 2408 i) (hp : (Y 1 i = 1 ∨ Y 1 i = 17 ∨ Y 1 i = 18 ∨ Y 1 i = 19 ∨ Y 1 i = 20) → A (2650 + 6 * i) = Y 6 i) (e : ∀ j, 238 ≤ j → j < 598 → A' j = wr (A (2408 + j))) : RYr Y A' 0 i := by
  obtain ⟨y1, y2, y3, y4, y5, y6⟩ := hY i hi
  obtain ⟨h0, h1, h2, h3, h4, h5, h6⟩ := h
  have kr := kR_rng h0
  have at' : ∀ (k : Nat) (v : Int), k < 6 → A (2408 + 238 + 6 * i + k) = v → -2147483648 ≤ v → v < 2147483648 → A' (0 + 238 + 6 * i + k) = v := fun k v hk hv v1 v2 => by
    rw [e _ (by omega) (by omega), show 2408 + (0 + 238 + 6 * i + k) = 2408 + 238 + 6 * i + k by omega, hv, wr_id v1 v2]
  unfold RYr
  refine ⟨h0, at' 0 _ (by omega) h1 (by omega) (by omega), fun q => at' 1 _ (by omega) (h2 q) (by omega) (by omega), fun q => at' 1 _ (by omega) (h3 q) (by omega) (by omega), fun q => at' 2 _ (by omega) (h4 q) (by omega) (by omega), fun q => at' 3 _ (by omega) (h5 q) (by omega) (by omega), fun q => at' 4 _ (by omega) ?_ (by omega) (by omega), fun q => at' 5 _ (by omega) (h6 q) (by omega) (by omega)⟩
  rw [show 2408 + 238 + 6 * i + 4 = 2650 + 6 * i by omega]
  exact hp q
set_option maxHeartbeats 2000000 in
theorem r_years {l : Launch} {E : EnvT} {d : Nat} {K : AV → Mem → Prop} {M : Mem} {F Z C D T Y : Ch} {A : Nat → Int} {n : Int} (hd : 14 ≤ d) (hX : XBn (F 2)) (hXR : XR F Z) (t1 : 0 ≤ F 0 16) (t2 : F 0 16 ≤ 900) (hT : TG T) (hV : VB C) (hY : YV Y) (hO : ∀ k, k < 3 → 0 ≤ D 1 k ∧ D 1 k < 60) (f0 : A 0 = C 0 8) (hN : NR C Z 0) (n1 : -2147483648 ≤ n) (n2 : n < 2147483648) (hn : ¬ (0 ≤ n ∧ n ≤ F 0 16 ∧ n ≤ 300) → K (.int (iN (-1)), 0) (zA M (sZ Z 1) A)) (h9 : ∀ L : Nat, n = L → n ≤ F 0 16 → n ≤ 300 → (yAll (F 2) L C D T Y).1 = false → ∀ (Z' : Ch) (A' : Nat → Int), ZW Z Z' → (∀ j, j < 2408 → A' j = A j) → Z' 0 10 = 0 → Z' 0 16 = (yAll (F 2) L C D T Y).2.2.1 0 10 → Z' 0 17 = (yAll (F 2) L C D T Y).2.2.1 0 4 → 1 ≤ (yAll (F 2) L C D T Y).2.2.1 0 10 → K (.int (iN (-1)), 0) (zA M (sZ Z' 9) A')) (hy : ∀ L : Nat, n = L → n ≤ F 0 16 → n ≤ 300 → (yAll (F 2) L C D T Y).1 = true → ∀ (Z' : Ch) (A' : Nat → Int), ZW Z Z' → (∀ j, ((j < 238 ∧ j ≠ 4) ∨ (602 ≤ j ∧ j < 2408)) → A' j = A j) → Z' 0 10 = 0 → Z' 0 16 = 0 → Z' 0 17 = -1 → (yAll (F 2) L C D T Y).2.2.1 0 10 = 0 → YP (yAll (F 2) L C D T Y).2.2.2 (C 0 8) → RY (yAll (F 2) L C D T Y).2.2.2 A' 0 → K (.int (iN ((yAll (F 2) L C D T Y).2.2.2 0 7)), 0) (zA M (sZ Z' 0) A')) : CT l E d m_Mod_years [(.ref 24, 41), (.int (iN n), 0)] (zA M Z A) K := by
  refine CT.of pn_Mod (Nat.le_of_ble_eq_true rfl) ?_
  refine b_Mod_years_0 (by omega) (r_begins (mo := 300) (by omega) hX hXR t1 t2 hT n1 n2 (by omega) (by omega) (fun c => ?_) (fun L hL c1 c2 Z1 z1 z10 ok1 => ?_))
  · rw [toI_int]
    exact ⟨fun c => absurd (by decide +kernel) c, fun _ => r_refuse (by omega) (by omega) (by omega) (hn (by omega))⟩
  have L9 : L ≤ 900 := (by omega)
  rw [toI_int]
  refine ⟨fun _ => ⟨inA (by omega) (by omega), ?_⟩, fun c => absurd c (by decide +kernel)⟩
  rw [iN_0I, clA (z := 2412) (j := 2412) rfl (by omega), zA_u, zA_u0, zA_u0]
  have h9 := h9 L hL c1 c2
  have hy := hy L hL c1 c2
  unfold yAll at h9 hy
  have fY0 : forgY Y 0 6 = 0 ∧ forgY Y 0 7 = 0 ∧ forgY Y 0 8 = 0 := by simp [forgY, upd2]
  have fYc : ∀ c, c ≠ 0 → forgY Y c = Y c := fun c hc => by unfold forgY; rw [upd2_c _ _ hc, upd2_c _ _ hc, upd2_c _ _ hc]
  have hYf : YV (forgY Y) := by
    intro i hi
    rw [fYc 1 (by omega), fYc 2 (by omega), fYc 3 (by omega), fYc 4 (by omega), fYc 5 (by omega), fYc 6 (by omega)]
    exact hY i hi
  have hDf : DI (upd2 D 0 2 0) (forgY Y) := by
    unfold DI
    rw [fY0.1, fY0.2.1, fY0.2.2, upd2_same, upd2_c _ _ (show 1 ≠ 0 by decide)]
    exact ⟨(by omega), hO, (by omega), (by omega), (by omega), Or.inl rfl⟩
  generalize hRR : yAF (F 2) L C (L + 1) (upd2 D 0 2 0) (advT (F 2) L (startT T L)) (forgY Y) = R at h9 hy
  have fr : ∀ Z2 : Ch, (∀ c k, ¬ (c = 0 ∧ ((10 ≤ k ∧ k ≤ 19) ∨ k = 23 ∨ k = 24)) → c ≠ 7 → c ≠ 8 → Z2 c k = Z c k) → ∀ v, ZW Z (upd2 Z2 0 16 v) := fun Z2 h v c k a1 a2 a3 => by
    rw [upd2_nn _ (by omega)]
    exact h c k a1 a2 a3
  have tak : ∀ (Z2 : Ch) (A2 : Nat → Int) (x : Int32), (yFin R).1 = false → ZW Z Z2 → (∀ j, j < 2408 → A2 j = A j) → Z2 0 10 = 0 → FZ (yFin R).2.2.1 Z2 → CT l E (d - 1) m_Mod_taken [(.ref 24, 41), (.int x, 0)] (zA M Z2 A2) (fun v1 M1 => K (.int (toI v1), 0) M1) := by
    intro Z2 A2 x q1 q2 q3 q4 q5
    obtain ⟨g1, g2, g3, g4, g5, g6⟩ := q5
    refine r_taken (by omega) (by omega) (by omega) (fun c => absurd c (by omega)) (fun _ => ?_)
    rw [toI_int, g1]
    refine h9 q1 _ A2 (fr Z2 q2 _) q3 ?_ (upd2_same _ _ _ _) ?_ g3
    · rw [upd2_k _ _ (by decide)]; exact q4
    · rw [upd2_k _ _ (by decide)]; exact g2
  have bad : ∀ (Z2 : Ch) (A2 : Nat → Int), (yFin R).1 = false → ZW Z Z2 → (∀ j, j < 2408 → A2 j = A j) → Z2 0 10 = 0 → FZ (yFin R).2.2.1 Z2 → G l E d m_Mod_years 38 [(0, (.ref 24, 41)), (2, (.int (iN 0), 0))] [] (zA M Z2 A2) K := by
    intro Z2 A2 q1 q2 q3 q4 q5
    have g1 := q5.1
    have g3 := q5.2.2.1
    have g4 := q5.2.2.2.1
    refine b_Mod_years_38 (by omega) ⟨fun _ => ?_, fun c => absurd (by decide +kernel) c⟩
    rw [zA_0, g1, iN_eq0 (a := (yFin R).2.2.1 0 10) (by omega) (by omega)]
    exact ⟨fun _ => ⟨fun _ => tak Z2 A2 _ q1 q2 q3 q4 q5, fun c => absurd c (by omega)⟩, fun c => absurd c (by omega)⟩
  have loop : ∀ (m : Nat) (p : Int) (D2 T2 Y2 Z2 : Ch) (A2 : Nat → Int), yAF (F 2) L C m D2 T2 Y2 = R → (L : Int) + 1 ≤ T2 0 4 + m → OKT (F 2) L p T2 Z2 → YV Y2 → DI D2 Y2 → YI D2 Y2 (C 0 8) → YSt D2 Y2 Z2 A2 → ZW Z Z2 → (∀ j, j < 2408 → A2 j = A j) → Z2 0 10 = 0 → G l E d m_Mod_years 38 [(0, (.ref 24, 41)), (2, (.int (iN 1), 0))] [] (zA M Z2 A2) K := by
    intro m
    induction m with
    | zero =>
      intro p D2 T2 Y2 Z2 A2 hr hm ok
      have := ok.2.2.2.2.2
      have := ok.2.1.2.2.1.2
      push_cast at hm
      omega
    | succ m ih =>
      intro p D2 T2 Y2 Z2 A2 hr hm ok yv di yi ys hz hA h10
      have he : yAF (F 2) L C (m + 1) D2 T2 Y2 = if T2 0 3 = 0 then (true, D2, T2, Y2) else if (yPt (F 2) L C D2 T2 Y2).1 = true then yAF (F 2) L C m (yPt (F 2) L C D2 T2 Y2).2.1 (advT (F 2) L (yPt (F 2) L C D2 T2 Y2).2.2.1) (yPt (F 2) L C D2 T2 Y2).2.2.2 else yPt (F 2) L C D2 T2 Y2 := rfl
      rw [he] at hr
      have a3 := ok.2.1.2.2.2.1
      have tk := (tk_iff a3.1 a3.2).2.2.2.2
      have g2 : A2 0 = C 0 8 := by rw [hA 0 (by omega)]; exact f0
      have N2 : NR C Z2 0 := fun s hs => by rw [hz 2 _ (by omega) (by decide) (by decide)]; exact hN s hs
      have dd := di.1
      have d7 := di.2.2.2.1
      have d6 := di.2.2.2.2.1
      have z18 := ok.2.2.1.1
      refine b_Mod_years_38 (by omega) ⟨fun c => absurd c (by decide +kernel), fun _ => ?_⟩
      rw [zA_0, ok.1.2.2.1, show (iN (tkR (T2 0 3)) = 0) = (iN (tkR (T2 0 3)) = iN 0) from rfl, tk, z18, ys.1, iN_le0 (a := D2 0 2) (by omega) (by omega)]
      refine ⟨fun k0 => ⟨fun c => absurd (by decide +kernel) c, fun _ => ⟨fun c0 => ⟨fun c => absurd (by decide +kernel) c, fun _ => ⟨inA (by omega) (by omega), inA (by omega) (by omega), ?_⟩⟩, fun c0 => ?_⟩⟩, fun k0 => ?_⟩
      · rw [if_pos k0] at hr
        have dz : D2 0 2 = 0 := (by omega)
        have eF : yFin R = (true, D2, T2, upd2 Y2 0 8 1) := by
          rw [← hr]
          unfold yFin
          rw [if_pos rfl, if_pos dz]
        rw [eF] at hy
        have hy := hy rfl
        dsimp only at hy
        have yp := yi.fin dz
        rw [zA_1, clA (z := 2412) (j := 2412) rfl (by omega), clA (z := 4) (j := 4) rfl (by omega), ys.2.2.2.1, iN_small (by omega) (by omega), zA_u]
        have no : ∀ i, ¬ inSt D2 i := fun i ⟨k, k1, _⟩ => by rw [dz] at k1; omega
        have cp : ∀ (f k : Nat) (A3 : Nat → Int), k + f = 598 → 238 ≤ k → (∀ j, A3 j = if 238 ≤ j ∧ j < k then wr (A2 (2408 + j)) else if j = 4 then Y2 0 6 else A2 j) → G l E d m_Mod_years 102 [(0, (.ref 24, 41)), (3, (.int (iN (k : Int)), 0))] [] (zA M Z2 A3) K := by
          intro f
          induction f with
          | zero =>
            intro k A3 e1 e2 e3
            have : k = 598 := (by omega)
            subst this
            refine b_Mod_years_102 (by omega) ⟨fun _ => ?_, fun c => absurd ((iN_le (by omega) (by omega) (by omega) (by omega)).mpr (by omega)) c⟩
            rw [zA_0, ys.2.2.1]
            refine r_taken (by omega) (by omega) (by omega) (fun _ => ?_) (fun c => absurd z18 c)
            rw [toI_int]
            have e07 : upd2 Y2 0 8 1 0 7 = Y2 0 7 := upd2_k _ _ (by decide)
            rw [e07] at hy
            refine hy _ A3 (fr Z2 hz _) (fun j hj => ?_) ?_ (upd2_same _ _ _ _) ?_ ok.2.2.2.1 yp.u8 ⟨fun _ => ?_, fun q => ?_, fun i hi => ?_⟩
            · rw [e3, if_neg (by omega), if_neg (by omega)]; exact hA j (by omega)
            · rw [upd2_k _ _ (by decide)]; exact h10
            · rw [upd2_k _ _ (by decide)]; exact ok.2.2.1.2
            · rw [e3, if_neg (by omega), if_pos rfl, upd2_k _ _ (by decide)]
            · rw [upd2_same] at q; omega
            · rw [upd2_k _ _ (by decide)] at hi
              have i60 : i < 60 := (by omega)
              have rr : RYr Y2 A3 0 i := RYr.mk yv i60 (ys.2.2.2.2.1 i hi) (fun q => ys.2.2.2.2.2 i hi (by
                by_cases q20 : Y2 1 i = 20
                · exact Or.inl q20
                · exact Or.inr ⟨by unfold opn; omega, no i⟩)) (fun j j1 j2 => by rw [e3, if_pos ⟨j1, j2⟩])
              unfold RYr at rr ⊢
              rw [upd2_c _ _ (show 1 ≠ 0 by decide), upd2_c _ _ (show 2 ≠ 0 by decide), upd2_c _ _ (show 3 ≠ 0 by decide), upd2_c _ _ (show 4 ≠ 0 by decide), upd2_c _ _ (show 5 ≠ 0 by decide), upd2_c _ _ (show 6 ≠ 0 by decide)]
              exact rr
          | succ f ihf =>
            intro k A3 e1 e2 e3
            refine b_Mod_years_102 (by omega) ⟨fun c => absurd ((iN_le (by omega) (by omega) (by omega) (by omega)).mp c) (by omega), fun _ => ?_⟩
            rw [iN_add, iN_add]
            refine ⟨inA (by omega) (by omega), inA (by omega) (by omega), ?_⟩
            rw [clA (z := 2408 + (k : Int)) (j := 2408 + k) (by omega) (by omega), clA (z := (k : Int)) (j := k) rfl (by omega), zA_1, zA_u, e3, if_neg (by omega), if_neg (by omega)]
            refine ihf (k + 1) _ (by omega) (by omega) (fun j => ?_)
            rw [updP_at, e3]
            by_cases q : j = k
            · rw [if_pos q, if_pos (by omega), q]; rfl
            · rw [if_neg q]
              by_cases q2 : 238 ≤ j ∧ j < k
              · rw [if_pos q2, if_pos (by omega)]
              · rw [if_neg q2, if_neg (show ¬ (238 ≤ j ∧ j < k + 1) by omega)]
        exact cp 360 238 _ (by omega) (by omega) (fun j => by rw [if_neg (by omega), updP_at])
      · rw [if_pos k0] at hr
        have eF : yFin R = (false, D2, rfT T2 2, upd2 Y2 0 8 1) := by
          rw [← hr]
          unfold yFin
          rw [if_pos rfl, if_neg (show ¬ D2 0 2 = 0 by omega)]
        rw [eF] at tak
        refine r_fails (by omega) ok (by omega) (by omega) (fun Z3 z3 f3 => ?_)
        have g1 := f3.1
        have g3 := f3.2.2.1
        have g4 := f3.2.2.2.1
        rw [zA_0, g1, iN_eq0 (by omega) (by omega)]
        refine ⟨fun _ => tak Z3 A2 _ rfl (fun c k a1 a2 a3 => by rw [z3 c k (by omega)]; exact hz c k a1 a2 a3) hA (by rw [z3 0 10 (by omega)]; exact h10) f3, fun c => absurd c (by omega)⟩
      · rw [if_neg k0] at hr
        have qi := yPt_QI (C := C) (D := D2) (T := T2) (Y := Y2) L9 hX hV ok.2.1 yv di
        refine r_yearStep (by omega) hX L9 ok hV g2 N2 di yi ys (fun q Z3 A3 z3 f3 ok3 yi3 ys3 => ?_) (fun q Z3 A3 z3 f3 fz => ?_)
        · rw [if_pos q] at hr
          rw [toI_int]
          refine ih _ _ _ _ Z3 A3 hr ?_ ok3 qi.2.1 qi.2.2 yi3 ys3 (fun c k a1 a2 a3 => ?_) (fun j hj => by rw [f3 j hj]; exact hA j hj) ?_
          · have := ok3.2.2.2.2.1
            push_cast at hm
            omega
          · rw [z3 c k (by omega) a3]; exact hz c k a1 a2 a3
          · rw [z3 0 10 (by omega) (by decide)]; exact h10
        · rw [if_neg (by rw [q]; decide)] at hr
          have eF : yFin R = yPt (F 2) L C D2 T2 Y2 := by
            rw [← hr]
            unfold yFin
            rw [if_neg (by rw [q]; decide)]
          rw [eF] at bad
          rw [toI_int]
          refine bad Z3 A3 q (fun c k a1 a2 a3 => ?_) (fun j hj => by rw [f3 j hj]; exact hA j hj) ?_ fz
          · rw [z3 c k (by omega) a3]; exact hz c k a1 a2 a3
          · rw [z3 0 10 (by omega) (by decide)]; exact h10
  refine loop (L + 1) 0 _ _ (forgY Y) _ _ hRR ?_ ((ok1.zk (k := 23) (v := 0) (by omega)).zk (k := 24) (v := 0) (by omega)) hYf hDf ⟨fun k hk => ?_, fun j k jk hk => ?_, fun i hi => ?_, fun i hi => ?_, fun a b ha => ?_, fun i hi => ?_⟩ ⟨?_, fun k hk => ?_, ?_, ?_, fun i hi => ?_, fun i hi => ?_⟩ (fun c k a1 a2 a3 => ?_) (fun j hj => ?_) ?_
  · have := ok1.2.2.2.2.1
    push_cast
    omega
  · rw [upd2_same] at hk; omega
  · rw [upd2_same] at hk; omega
  · rw [fY0.1] at hi; omega
  · rw [fY0.1] at hi; omega
  · rw [fY0.1] at ha; omega
  · rw [fY0.1] at hi; omega
  · rw [upd2_k _ _ (by decide), upd2_same, upd2_same]
  · rw [upd2_same] at hk; omega
  · rw [upd2_same, fY0.2.1]
  · rw [updP_same, fY0.1]
  · rw [fY0.1] at hi; omega
  · rw [fY0.1] at hi; omega
  · rw [upd2_nn _ (by omega), upd2_nn _ (by omega)]
    exact z1 c k (by omega) a2
  · rw [updP_ne _ _ (by omega)]
  · rw [upd2_k _ _ (by decide), upd2_k _ _ (by decide)]; exact z10
