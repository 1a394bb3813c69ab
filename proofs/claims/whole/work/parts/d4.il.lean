theorem lend_1 {C : Ch} {a b n : Int} : (lendC C a b n).2 1 = C 1 := by
  unfold lendC
  split
  · dsimp only
    rw [upd2_c _ _ (by decide), upd2_c _ _ (by decide), oweC_c (by decide)]
  · rfl
theorem pay_1 {C : Ch} {a b n : Int} : (payC C a b n).2 1 = C 1 := by
  unfold payC
  split
  · show settleC _ 1 = _
    rw [settleC_c (by decide), takeOffC_c (by decide) (by decide), handC_c (by decide) (by decide)]
  · rfl
theorem sun_1 {C : Ch} : (sunC C).2 1 = C 1 := by
  unfold sunC
  split
  · dsimp only
    rw [sunP_c C _ _ (by decide) (by decide)]
  · rfl
theorem cold_1 {C : Ch} {z : Int} : (coldC C z).2 1 = C 1 := by
  unfold coldC
  split
  · show settleC _ 1 = _
    rw [settleC_c (by decide), upd2_c _ _ (by decide), coldF_c _ (by decide) (by decide) (by decide) (by decide)]
  · rfl
theorem bury_1 {C : Ch} {z : Int} : (buryC C z).2 1 = C 1 := by
  unfold buryC
  split
  · dsimp only
    rw [settleC_c (by decide), upd2_c _ _ (by decide), upd2_c _ _ (by decide), buryC1_c (by decide)]
  · rfl
theorem lifeDo_1 {Y L C : Ch} {i : Nat} : (lifeDo Y L C i).2.2 1 = C 1 := by
  unfold lifeDo
  split
  · exact cold_1
  · split
    · exact lend_1
    · split
      · exact pay_1
      · split
        · exact sun_1
        · split
          · exact bury_1
          · split
            · dsimp only
              rw [netC_c (by decide)]
            · split
              · rfl
              · unfold anyC
                split
                · exact lend_1
                · rfl
theorem runF_1 {Y : Ch} : ∀ (f : Nat) (i : Int) (L C : Ch), (runF Y f i L C).2 1 = C 1
  | 0, _, _, _ => rfl
  | f + 1, i, L, C => by
    unfold runF
    split
    · rfl
    · split
      · rfl
      · split
        · exact runF_1 f _ _ C
        · split
          · rw [runF_1 f]
            unfold stepC2
            split
            · rfl
            · split
              · rfl
              · exact lifeDo_1
          · exact runF_1 f _ _ C
theorem run_1 {Y L C : Ch} {sd : Int} : (runC Y L C sd).2 1 = C 1 := by
  unfold runC
  exact runF_1 _ _ _ _
theorem IV.lf {M : Mem} {Z Z' L' : Ch} {A : Nat → Int} (iv : IV M Z A) (lt : LT L' Z') (tl : TL L') (z : ZLT Z Z') : IV (setR M 13 L') Z' A := by
  obtain ⟨rc, rs, ry, rz, hf, hc, hs, ht, hl, hr, hk⟩ := iv
  have f5 := hf.2.1
  have f6 := hf.2.2.1
  have e : ∀ r, r ≠ 13 → setR M 13 L' r = M r := fun r hr => setR_ne _ _ hr
  have z0 : ∀ k, k ≠ 27 → k ≠ 28 → k ≠ 32 → Z' 0 k = Z 0 k := fun k h1 h2 h3 => z 0 k (by decide) (by decide) (by decide) (by omega)
  have zc : ∀ c, c ≠ 0 → c < 11 → Z' c = Z c := fun c h1 h2 => funext (fun k => z c k (by omega) (by omega) (by omega) (by omega))
  refine ⟨rc, rs, ry, rz, hf.cg (fun j j1 j2 => by rw [e 0 (by omega)]) (e _ (by omega)) (e _ (by omega)), hc.cg (e _ (by omega)) (e _ (by omega)) (fun k _ => by rw [zc 2 (by omega) (by omega)]) (fun _ _ => rfl), ?_, ht.cg (fun r r1 r2 => e _ (by omega)) (zc _ (by omega) (by omega)) (zc _ (by omega) (by omega)) (zc _ (by omega) (by omega)), ⟨by rw [setR_same]; exact lt, by rw [setR_same]; exact tl, by rw [e 14 (by omega)]; exact hl.2.2⟩, hr.cg (e _ (by omega)) (e _ (by omega)) (e _ (by omega)), hk.cg (fun r r1 r2 => e _ (by omega)) (z0 _ (by omega) (by omega) (by omega)) (fun k _ _ => by rw [zc 2 (by omega) (by omega)]) (fun _ _ _ => rfl)⟩
  unfold IVs XR at hs ⊢
  rw [z0 _ (by omega) (by omega) (by omega), z0 _ (by omega) (by omega) (by omega), z0 _ (by omega) (by omega) (by omega), z0 _ (by omega) (by omega) (by omega), z0 _ (by omega) (by omega) (by omega), z0 _ (by omega) (by omega) (by omega), z0 _ (by omega) (by omega) (by omega), zc 6 (by omega) (by omega), e 0 (by omega)]
  exact hs
theorem IV.mn {M : Mem} {Z Z' L' D' : Ch} {A A' : Nat → Int} {rc : Nat} (iv : IV M Z A) (h9 : M 0 0 9 = rc) (tl : TL L') (z : ZLV Z Z') (im : IM (fx (M rc)) A A') : IV (setR (setR M 14 L') 15 D') Z' A' := by
  obtain ⟨rc2, rs, ry, rz, hf, hc, hs, ht, hl, hr, hk⟩ := iv
  have : rc2 = rc := by have := hf.1.1; omega
  subst this
  have f5 := hf.2.1
  have f6 := hf.2.2.1
  obtain ⟨im1, im2, im3, im4⟩ := im
  have e : ∀ r, r ≠ 14 → r ≠ 15 → setR (setR M 14 L') 15 D' r = M r := fun r h1 h2 => by rw [setR_ne _ _ h2, setR_ne _ _ h1]
  have z0 : ∀ k, k ≠ 27 → k ≠ 28 → Z' 0 k = Z 0 k := fun k h1 h2 => z 0 k (by decide) (by decide) (by omega)
  have zc : ∀ c, c ≠ 0 → c ≠ 11 → c ≠ 12 → Z' c = Z c := fun c h1 h2 h3 => funext (fun k => z c k h2 h3 (by omega))
  refine ⟨rc2, rs, ry, rz, hf.cg (fun j j1 j2 => by rw [e 0 (by omega) (by omega)]) (e _ (by omega) (by omega)) (e _ (by omega) (by omega)), ?_, ?_, ht.cg (fun r r1 r2 => e _ (by omega) (by omega)) (zc _ (by omega) (by omega) (by omega)) (zc _ (by omega) (by omega) (by omega)) (zc _ (by omega) (by omega) (by omega)), ⟨?_, by rw [e 13 (by omega) (by omega)]; exact hl.2.1, by rw [setR_ne _ _ (by decide), setR_same]; exact tl⟩, hr.cg (e _ (by omega) (by omega)) (e _ (by omega) (by omega)) (e _ (by omega) (by omega)), hk.cg (fun r r1 r2 => e _ (by omega) (by omega)) (z0 _ (by omega) (by omega)) (fun k _ _ => by rw [zc 2 (by omega) (by omega) (by omega)]) (fun j j1 j2 => im2 j (by omega) (by omega))⟩
  · obtain ⟨w1, w2, w3, w4, w5⟩ := hc
    unfold IVc
    rw [e rc2 (by omega) (by omega), e ry (by omega) (by omega)]
    exact ⟨w1, im3, w3.cg w1.1 (fun k _ _ => by rw [zc 2 (by omega) (by omega) (by omega)]), w4, w5.cg w4.1 im4 (fun j j1 j2 => im2 j (by omega) (by omega))⟩
  · unfold IVs XR at hs ⊢
    rw [z0 _ (by omega) (by omega), z0 _ (by omega) (by omega), z0 _ (by omega) (by omega), z0 _ (by omega) (by omega), z0 _ (by omega) (by omega), z0 _ (by omega) (by omega), z0 _ (by omega) (by omega), zc 6 (by omega) (by omega) (by omega), e 0 (by omega) (by omega)]
    exact hs
  · unfold LT
    rw [e 13 (by omega) (by omega), z0 32 (by omega) (by omega), zc 13 (by omega) (by omega) (by omega)]
    exact hl.1
theorem i_live {l : Launch} {E : EnvT} {d : Nat} {M : Mem} {Z : Ch} {A : Nat → Int} {a : Int} (hd : 20 ≤ d) (iv : IV M Z A) (a1 : -2147483648 ≤ a) (a2 : a < 2147483648): CT l E d m_FN_live [(.ref 0, 0), (.int (iN a), 0)] (zA M Z A) (fun v1 M1 => CT l E d m_Mod_live [(.ref 24, 41), (.int (iN a), 0)] M1 (fun v2 M2 => PST v1 v2 M2)) := by
  obtain ⟨rc, rs, ry, rz, hf, hc, hs, ht, hl, hr, hk⟩ := id iv
  have f5 := hf.2.1
  have f6 := hf.2.2.1
  have er : zA M Z A rc = M rc := zA_r M Z A (by omega)
  have ey : zA M Z A ry = M ry := zA_r M Z A (by omega)
  have fc := hf.fc hc
  have fy := hf.fy hc
  have hB := hs.2.1
  have hW := hc.1
  have hV := hW.1
  have hR := hc.2.1
  have yg := hc.2.2.2.1
  have hRY := hc.2.2.2.2
  have e13 : zA M Z A 13 = M 13 := zA_r M Z A (by decide)
  have tl := hl.2.1
  refine c_liveQ (by omega) fc fy (by rw [ey]; exact yg.2.1) (by rw [ey]; exact yg.yt) (by rw [e13]; exact fun i hi => by have := tl i hi; omega) a1 a2 (fun c => ?_) (fun c c2 c3 => ?_) (fun c c2 c3 => ?_)
  · rw [zA_st]
    exact x_live (Y := M ry) (L := M 13) (by omega) hB hW hR yg.2.1 yg.1 yg.2.2.1 hRY tl a1 a2 (fun _ => ⟨rfl, _, _, _, rfl, iv.st _⟩) (fun q1 q2 => absurd ⟨q1, q2⟩ c) (fun q1 q2 => absurd ⟨q1, q2⟩ c)
  · rw [ey] at c3
    rw [zA_st]
    exact x_live (Y := M ry) (L := M 13) (by omega) hB hW hR yg.2.1 yg.1 yg.2.2.1 hRY tl a1 a2 (fun q => absurd ⟨c, c2⟩ q) (fun _ _ _ => ⟨rfl, _, _, _, rfl, iv.st _⟩) (fun _ _ q => by omega)
  · rw [ey] at c3
    rw [ey, e13, er, zA_set M Z A _ (by decide), zA_set _ Z A _ (by omega), zA_st]
    refine x_live (Y := M ry) (L := M 13) (by omega) hB hW hR yg.2.1 yg.1 yg.2.2.1 hRY tl a1 a2 (fun q => absurd ⟨c, c2⟩ q) (fun _ _ q => by omega) (fun _ _ _ Z2 A2 w1 w2 w3 w4 w5 w6 w7 => ?_)
    have i2 := iv.lf w6 w7 w5
    have e9 : setR M 13 (runC (M ry) (M 13) (M rc) a).1 0 0 9 = rc := by rw [setR_ne _ _ (show (0 : Nat) ≠ 13 by decide)]; exact hf.1.1
    exact ⟨rfl, _, _, _, rfl, (i2.chx e9 (by rw [setR_ne _ _ (show rc ≠ 13 by omega)]; exact ⟨w1, w2, run_1⟩) w3 w4).st _⟩
theorem i_lived {l : Launch} {E : EnvT} {d : Nat} {M : Mem} {Z : Ch} {A : Nat → Int} {a : Int} (hd : 20 ≤ d) (iv : IV M Z A) (a1 : -2147483648 ≤ a) (a2 : a < 2147483648): CT l E d m_FN_lived [(.ref 0, 0), (.int (iN a), 0)] (zA M Z A) (fun v1 M1 => CT l E d m_Mod_lived [(.ref 24, 41), (.int (iN a), 0)] M1 (fun v2 M2 => PST v1 v2 M2)) := by
  obtain ⟨rc, rs, ry, rz, hf, hc, hs, ht, hl, hr, hk⟩ := id iv
  have f5 := hf.2.1
  have f6 := hf.2.2.1
  have er : zA M Z A rc = M rc := zA_r M Z A (by omega)
  have ey : zA M Z A ry = M ry := zA_r M Z A (by omega)
  have fc := hf.fc hc
  have fy := hf.fy hc
  have hB := hs.2.1
  have hW := hc.1
  have hV := hW.1
  have hR := hc.2.1
  have yg := hc.2.2.2.1
  have hRY := hc.2.2.2.2
  have e13 : zA M Z A 13 = M 13 := zA_r M Z A (by decide)
  have lt := hl.1
  refine c_livedQ (by omega) a1 a2 (by rw [e13]; exact lt.2.1) (fun c => ?_) (fun c c2 c3 => ?_) (fun c c2 c3 => ?_)
  · rw [zA_st]
    exact r_lived (L := M 13) (by omega) lt a1 a2 (fun _ => ⟨rfl, _, _, _, rfl, iv.st _⟩) (fun q1 q2 => absurd ⟨q1, q2⟩ c) (fun q1 q2 => absurd ⟨q1, q2⟩ c)
  · rw [e13] at c3
    rw [zA_st]
    exact r_lived (L := M 13) (by omega) lt a1 a2 (fun q => absurd ⟨c, c2⟩ q) (fun _ _ _ => ⟨rfl, _, _, _, rfl, iv.st _⟩) (fun _ _ q => by omega)
  · rw [e13] at c3
    rw [e13, zA_st]
    exact r_lived (L := M 13) (by omega) lt a1 a2 (fun q => absurd ⟨c, c2⟩ q) (fun _ _ q => by omega) (fun _ _ _ => ⟨rfl, _, _, _, rfl, iv.st _⟩)
theorem i_mean {l : Launch} {E : EnvT} {d : Nat} {M : Mem} {Z : Ch} {A : Nat → Int} {a n : Int} (hd : 20 ≤ d) (iv : IV M Z A) (a1 : -2147483648 ≤ a) (a2 : a < 2147483648) (n1 : -2147483648 ≤ n) (n2 : n < 2147483648): CT l E d m_FN_mean [(.ref 0, 0), (.int (iN a), 0), (.int (iN n), 0)] (zA M Z A) (fun v1 M1 => CT l E d m_Mod_mean [(.ref 24, 41), (.int (iN a), 0), (.int (iN n), 0)] M1 (fun v2 M2 => PST v1 v2 M2)) := by
  obtain ⟨rc, rs, ry, rz, hf, hc, hs, ht, hl, hr, hk⟩ := id iv
  have f5 := hf.2.1
  have f6 := hf.2.2.1
  have er : zA M Z A rc = M rc := zA_r M Z A (by omega)
  have ey : zA M Z A ry = M ry := zA_r M Z A (by omega)
  have fc := hf.fc hc
  have fy := hf.fy hc
  have hB := hs.2.1
  have hW := hc.1
  have hV := hW.1
  have hR := hc.2.1
  have yg := hc.2.2.2.1
  have hRY := hc.2.2.2.2
  have e14 : zA M Z A 14 = M 14 := zA_r M Z A (by decide)
  have e15 : zA M Z A 15 = M 15 := zA_r M Z A (by decide)
  have tl := hl.2.2
  refine c_meanQ (by omega) fc fy (by rw [ey]; exact yg.2.1) (by rw [ey]; exact yg.yt) (by rw [e14]; exact fun i hi => by have := tl i hi; omega) a1 a2 n1 n2 (fun c => ?_) (fun c c2 c3 c4 c5 c6 => ?_) (fun c c2 c3 c4 c5 c6 c7 => ?_)
  · rw [zA_st]
    exact x_mean (Y := M ry) (L := M 14) (D := M 15) (by omega) hB hW hR yg.2.1 yg.1 yg.2.2.1 hRY tl a1 a2 n1 n2 (fun _ => ⟨rfl, _, _, _, rfl, iv.st _⟩) (fun q1 q2 q3 q4 q5 => absurd ⟨q1, q2, q3, q4, q5⟩ c) (fun q1 q2 q3 q4 q5 => absurd ⟨q1, q2, q3, q4, q5⟩ c)
  · rw [ey] at c6
    rw [zA_st]
    exact x_mean (Y := M ry) (L := M 14) (D := M 15) (by omega) hB hW hR yg.2.1 yg.1 yg.2.2.1 hRY tl a1 a2 n1 n2 (fun q => absurd ⟨c, c2, c3, c4, c5⟩ q) (fun _ _ _ _ _ _ => ⟨rfl, _, _, _, rfl, iv.st _⟩) (fun _ _ _ _ _ q => by omega)
  · rw [ey] at c6
    rw [ey, e14, e15, er, zA_set M Z A _ (by decide), zA_set _ Z A _ (by decide), zA_tf, zA_st]
    refine x_mean (Y := M ry) (L := M 14) (D := M 15) (by omega) hB hW hR yg.2.1 yg.1 yg.2.2.1 hRY tl a1 a2 n1 n2 (fun q => absurd ⟨c, c2, c3, c4, c5⟩ q) (fun _ _ _ _ _ q => by omega) (fun _ _ _ _ _ _ Z2 A2 im zl tl2 => ?_)
    exact ⟨rfl, _, _, _, rfl, ((iv.mn hf.1.1 tl2 zl im).tf _ _).st _⟩
theorem RY_cp {Y : Ch} {A A' : Nat → Int} {B B' : Nat} (hB : YB Y) (hY : YV Y) (h : RY Y A B) (e : ∀ j, j < 602 → A' (B' + j) = wr (A (B + j))) : RY Y A' B' := by
  have b := hB.1
  refine ⟨fun q => ?_, fun q => ?_, fun i hi => ?_⟩
  · rw [e 4 (by omega), h.1 q]; exact wr_id (by omega) (by omega)
  · rw [e 4 (by omega), h.2.1 q]; exact wr_id (by omega) (by omega)
  · have i60 : i < 60 := (by omega)
    obtain ⟨y1, y2, y3, y4, y5, y6⟩ := hY i i60
    obtain ⟨h0, h1, h2, h3, h4, h5, h6, h7⟩ := h.2.2 i hi
    have kr := kR_rng h0
    have at' : ∀ (k : Nat) (v : Int), k < 6 → A (B + 238 + 6 * i + k) = v → -2147483648 ≤ v → v < 2147483648 → A' (B' + 238 + 6 * i + k) = v := fun k v hk hv v1 v2 => by
      rw [show B' + 238 + 6 * i + k = B' + (238 + 6 * i + k) by omega, e _ (by omega), show B + (238 + 6 * i + k) = B + 238 + 6 * i + k by omega, hv, wr_id v1 v2]
    exact ⟨h0, at' 0 _ (by omega) h1 (by omega) (by omega), fun q => at' 1 _ (by omega) (h2 q) (by omega) (by omega), fun q => at' 1 _ (by omega) (h3 q) (by omega) (by omega), fun q => at' 2 _ (by omega) (h4 q) (by omega) (by omega), fun q => at' 3 _ (by omega) (h5 q) (by omega) (by omega), fun q => at' 4 _ (by omega) (h6 q) (by omega) (by omega), fun q => at' 5 _ (by omega) (h7 q) (by omega) (by omega)⟩
theorem IVm.cp {C Y Z Z' : Ch} {A A' : Nat → Int} {B b B' b' : Nat} (h : IVm C Y Z A B b) (ea : ∀ j, j < 602 → A' (B' + j) = wr (A (B + j))) (ez : ∀ k, k < 8 → Z' 2 (b' + k) = (lI (Z 2 (b + k))).toInt) : IVm C Y Z' A' B' b' := by
  obtain ⟨h1, h2, h3, h4, h5⟩ := h
  have n := h1.1.n
  refine ⟨h1, RR_cp (VB_fx h1.1) h2 (fun j hj => ea j (by omega)), fun s hs => ?_, h4, RY_cp h4.1 h4.2.1 h5 ea⟩
  have p := h3 s hs
  have pr := p.rng
  rw [ez s (by omega), lI_small (by omega) (by omega)]
  exact p
theorem i_mark {l : Launch} {E : EnvT} {d : Nat} {M : Mem} {Z : Ch} {A : Nat → Int} (hd : 20 ≤ d) (iv : IV M Z A) : CT l E d m_FN_mark [(.ref 0, 0)] (zA M Z A) (fun v1 M1 => CT l E d m_Mod_mark [(.ref 24, 41)] M1 (fun v2 M2 => PST v1 v2 M2)) := by
  obtain ⟨rc, rs, ry, rz, hf, hc, hs, ht, hl, hr, hk⟩ := id iv
  have f5 := hf.2.1
  have f6 := hf.2.2.1
  have er : zA M Z A rc = M rc := zA_r M Z A (by omega)
  have ey : zA M Z A ry = M ry := zA_r M Z A (by omega)
  have fc := hf.fc hc
  have fy := hf.fy hc
  have hB := hs.2.1
  have hW := hc.1
  have hV := hW.1
  have hR := hc.2.1
  have yg := hc.2.2.2.1
  have hRY := hc.2.2.2.2
  obtain ⟨k, k3, k1, k2, km⟩ := id hk
  have e5 : zA M Z A 5 = M 5 := zA_r M Z A (by decide)
  refine c_markQ (k := k) (by omega) fc fy (by rw [e5]; exact k1) k3 (fun c => ?_) (fun c => ?_)
  · rw [zA_st]
    exact r_mark (by omega) k2 k3 (fun _ => ⟨rfl, _, _, _, rfl, iv.st _⟩) (fun q => by omega)
  · rw [er, ey, e5, zA_set M Z A _ (by omega), zA_set _ Z A _ (by omega), zA_set _ Z A _ (by decide), zA_st]
    refine r_mark (by omega) k2 k3 (fun q => by omega) (fun _ Z2 A2 ca cz => ⟨rfl, _, _, _, rfl, IV.st ?_ _⟩)
    have e : ∀ r, r ≠ 6 + 2 * k → r ≠ 7 + 2 * k → r ≠ 5 → setR (setR (setR M (6 + 2 * k) (M rc)) (7 + 2 * k) (M ry)) 5 (upd2 (M 5) 0 2 ((k : Int) + 1)) r = M r := fun r h1 h2 h3 => by rw [setR_ne _ _ h3, setR_ne _ _ h2, setR_ne _ _ h1]
    have a0 : ∀ j, ¬ (602 * (k + 1) ≤ j ∧ j < 602 * (k + 1) + 602) → A2 j = A j := fun j hj => by rw [ca j, if_neg hj]
    have a1 : ∀ j, j < 602 → A2 (602 * (k + 1) + j) = wr (A (0 + j)) := fun j hj => by rw [ca, if_pos (by omega), show 602 * 0 + (602 * (k + 1) + j - 602 * (k + 1)) = 0 + j by omega]
    have z0 : ∀ j, j ≠ 33 → Z2 0 j = Z 0 j := fun j hj => by rw [cz.1 0 (by decide), upd2_k _ _ hj]
    have zc : ∀ c, c ≠ 0 → c ≠ 2 → Z2 c = Z c := fun c h1 h2 => by rw [cz.1 c h2, upd2_c _ _ h1]
    have z2 : ∀ j, ¬ (8 * (k + 1) ≤ j ∧ j < 8 * (k + 1) + 8) → Z2 2 j = Z 2 j := fun j hj => by rw [cz.2 j, if_neg hj, upd2_c _ _ (by decide)]
    have z3 : ∀ j, j < 8 → Z2 2 (8 * (k + 1) + j) = (lI (Z 2 (0 + j))).toInt := fun j hj => by rw [cz.2, if_pos (by omega), upd2_c _ _ (by decide), show 8 * 0 + (8 * (k + 1) + j - 8 * (k + 1)) = 0 + j by omega]
    have k3' : k < 3 := c
    refine ⟨rc, rs, ry, rz, hf.cg (fun j j1 j2 => by rw [e 0 (by omega) (by omega) (by omega)]) (e _ (by omega) (by omega) (by omega)) (e _ (by omega) (by omega) (by omega)), hc.cg (e _ (by omega) (by omega) (by omega)) (e _ (by omega) (by omega) (by omega)) (fun i hi => z2 i (by omega)) (fun j hj => a0 j (by omega)), ?_, ht.cg (fun r r1 r2 => e _ (by omega) (by omega) (by omega)) (zc _ (by omega) (by omega)) (zc _ (by omega) (by omega)) (zc _ (by omega) (by omega)), hl.cg (e _ (by omega) (by omega) (by omega)) (e _ (by omega) (by omega) (by omega)) (z0 _ (by omega)) (zc _ (by omega) (by omega)), hr.cg (e _ (by omega) (by omega) (by omega)) (e _ (by omega) (by omega) (by omega)) (e _ (by omega) (by omega) (by omega)), k + 1, (by omega), ?_, ?_, fun j hj => ?_⟩
    · unfold IVs XR at hs ⊢
      rw [z0 _ (by omega), z0 _ (by omega), z0 _ (by omega), z0 _ (by omega), z0 _ (by omega), z0 _ (by omega), z0 _ (by omega), zc 6 (by omega) (by omega), e 0 (by omega) (by omega) (by omega)]
      exact hs
    · rw [setR_same, upd2_same]; push_cast; rfl
    · rw [cz.1 0 (by decide), upd2_same]
    · by_cases q : j = k
      · subst q
        have m1 : setR (setR (setR M (6 + 2 * j) (M rc)) (7 + 2 * j) (M ry)) 5 (upd2 (M 5) 0 2 ((j : Int) + 1)) (6 + 2 * j) = M rc := by rw [setR_ne _ _ (by omega), setR_ne _ _ (by omega), setR_same]
        have m2 : setR (setR (setR M (6 + 2 * j) (M rc)) (7 + 2 * j) (M ry)) 5 (upd2 (M 5) 0 2 ((j : Int) + 1)) (7 + 2 * j) = M ry := by rw [setR_ne _ _ (by omega), setR_same]
        rw [m1, m2]
        exact IVm.cp (B := 0) (b := 0) hc a1 z3
      · rw [e (6 + 2 * j) (by omega) (by omega) (by omega), e (7 + 2 * j) (by omega) (by omega) (by omega)]
        exact (km j (by omega)).cg (fun i i1 i2 => a0 i (by omega)) (fun i i1 i2 => z2 i (by omega))
theorem i_undo {l : Launch} {E : EnvT} {d : Nat} {M : Mem} {Z : Ch} {A : Nat → Int} (hd : 20 ≤ d) (iv : IV M Z A) : CT l E d m_FN_undo [(.ref 0, 0)] (zA M Z A) (fun v1 M1 => CT l E d m_Mod_undo [(.ref 24, 41)] M1 (fun v2 M2 => PST v1 v2 M2)) := by
  obtain ⟨rc, rs, ry, rz, hf, hc, hs, ht, hl, hr, hk⟩ := id iv
  have f5 := hf.2.1
  have f6 := hf.2.2.1
  have er : zA M Z A rc = M rc := zA_r M Z A (by omega)
  have ey : zA M Z A ry = M ry := zA_r M Z A (by omega)
  have fc := hf.fc hc
  have fy := hf.fy hc
  have hB := hs.2.1
  have hW := hc.1
  have hV := hW.1
  have hR := hc.2.1
  have yg := hc.2.2.2.1
  have hRY := hc.2.2.2.2
  obtain ⟨k, k3, k1, k2, km⟩ := id hk
  have e5 : zA M Z A 5 = M 5 := zA_r M Z A (by decide)
  refine c_undoQ (k := k) (by omega) fc fy (by rw [e5]; exact k1) k3 (fun j hj => ?_) (fun c => ?_) (fun j c => ?_)
  · rw [zA_r M Z A (by omega), zA_r M Z A (by omega)]
    exact ⟨(km j hj).1.1, (km j hj).2.2.2.1.1⟩
  · rw [zA_st]
    exact r_undo (by omega) k2 k3 (fun _ => ⟨rfl, _, _, _, rfl, iv.st _⟩) (fun j q => by omega)
  · rw [e5, zA_r M Z A (by omega), zA_r M Z A (by omega), zA_set M Z A _ (by decide), zA_set _ Z A _ (by omega), zA_set _ Z A _ (by omega), zA_st]
    refine r_undo (by omega) k2 k3 (fun q => by omega) (fun j2 q Z2 A2 ca cz => ?_)
    have ej : j2 = j := (by omega)
    subst ej
    refine ⟨rfl, _, _, _, rfl, IV.st ?_ _⟩
    have e : ∀ r, r ≠ 5 → r ≠ rc → r ≠ ry → setR (setR (setR M 5 (upd2 (M 5) 0 2 (j2 : Int))) rc (M (6 + 2 * j2))) ry (M (7 + 2 * j2)) r = M r := fun r h1 h2 h3 => by rw [setR_ne _ _ h3, setR_ne _ _ h2, setR_ne _ _ h1]
    have a0 : ∀ j, 602 ≤ j → A2 j = A j := fun j hj => by rw [ca j, if_neg (by omega)]
    have a1 : ∀ j, j < 602 → A2 (0 + j) = wr (A (602 * (j2 + 1) + j)) := fun j hj => by rw [ca, if_pos (by omega), show 602 * (j2 + 1) + (0 + j - 602 * 0) = 602 * (j2 + 1) + j by omega]
    have z0 : ∀ j, j ≠ 33 → upd2 Z2 0 33 (j2 : Int) 0 j = Z 0 j := fun j hj => by rw [upd2_k _ _ hj, cz.1 0 (by decide)]
    have zc : ∀ c, c ≠ 0 → c ≠ 2 → upd2 Z2 0 33 (j2 : Int) c = Z c := fun c h1 h2 => by rw [upd2_c _ _ h1, cz.1 c h2]
    have z2 : ∀ j, 8 ≤ j → upd2 Z2 0 33 (j2 : Int) 2 j = Z 2 j := fun j hj => by rw [upd2_c _ _ (by decide), cz.2 j, if_neg (by omega)]
    have z3 : ∀ j, j < 8 → upd2 Z2 0 33 (j2 : Int) 2 (0 + j) = (lI (Z 2 (8 * (j2 + 1) + j))).toInt := fun j hj => by rw [upd2_c _ _ (by decide), cz.2, if_pos (by omega), show 8 * (j2 + 1) + (0 + j - 8 * 0) = 8 * (j2 + 1) + j by omega]
    have m1 : setR (setR (setR M 5 (upd2 (M 5) 0 2 (j2 : Int))) rc (M (6 + 2 * j2))) ry (M (7 + 2 * j2)) rc = M (6 + 2 * j2) := by rw [setR_ne _ _ (by omega), setR_same]
    have m2 : setR (setR (setR M 5 (upd2 (M 5) 0 2 (j2 : Int))) rc (M (6 + 2 * j2))) ry (M (7 + 2 * j2)) ry = M (7 + 2 * j2) := setR_same _ _ _
    have mm := IVm.cp (B' := 0) (b' := 0) (km j2 (by omega)) a1 z3
    refine ⟨rc, rs, ry, rz, hf.cg (fun j j1 j2 => by rw [e 0 (by omega) (by omega) (by omega)]) (e _ (by omega) (by omega) (by omega)) (e _ (by omega) (by omega) (by omega)), ?_, ?_, ht.cg (fun r r1 r2 => e _ (by omega) (by omega) (by omega)) (zc _ (by omega) (by omega)) (zc _ (by omega) (by omega)) (zc _ (by omega) (by omega)), hl.cg (e _ (by omega) (by omega) (by omega)) (e _ (by omega) (by omega) (by omega)) (z0 _ (by omega)) (zc _ (by omega) (by omega)), hr.cg (e _ (by omega) (by omega) (by omega)) (e _ (by omega) (by omega) (by omega)) (e _ (by omega) (by omega) (by omega)), j2, (by omega), ?_, upd2_same _ _ _ _, fun j hj => ?_⟩
    · unfold IVc
      rw [m1, m2]
      exact mm
    · unfold IVs XR at hs ⊢
      rw [z0 _ (by omega), z0 _ (by omega), z0 _ (by omega), z0 _ (by omega), z0 _ (by omega), z0 _ (by omega), z0 _ (by omega), zc 6 (by omega) (by omega), e 0 (by omega) (by omega) (by omega)]
      exact hs
    · rw [setR_ne _ _ (by omega), setR_ne _ _ (by omega), setR_same, upd2_same]
    · rw [e (6 + 2 * j) (by omega) (by omega) (by omega), e (7 + 2 * j) (by omega) (by omega) (by omega)]
      exact (km j (by omega)).cg (fun i i1 i2 => a0 i (by omega)) (fun i i1 i2 => z2 i (by omega))
