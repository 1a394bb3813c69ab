theorem RR.fr4 {C : Ch} {A A' : Nat → Int} {B : Nat} (hV : VB C) (h : RR C A B) (e : ∀ j, B ≤ j → j < B + 238 → j ≠ B + 4 → A' j = A j) : RR C A' B := by
  obtain ⟨⟨f0, f1, f2, f3, f5⟩, hs, hn, hh, hw⟩ := h
  have n8 := hV.n
  have w8 := hV.w
  refine ⟨⟨by rw [e _ (by omega) (by omega) (by omega)]; exact f0, by rw [e _ (by omega) (by omega) (by omega)]; exact f1, by rw [e _ (by omega) (by omega) (by omega)]; exact f2, by rw [e _ (by omega) (by omega) (by omega)]; exact f3, by rw [e _ (by omega) (by omega) (by omega)]; exact f5⟩, fun s s1 => ?_, fun s k s1 k1 => ?_, fun i hi => ?_, fun k hk => ?_⟩
  · obtain ⟨g0, g1, g2, g3, g4, g5, g6⟩ := hs s s1
    exact ⟨by rw [e _ (by omega) (by omega) (by omega)]; exact g0, by rw [e _ (by omega) (by omega) (by omega)]; exact g1, by rw [e _ (by omega) (by omega) (by omega)]; exact g2, by rw [e _ (by omega) (by omega) (by omega)]; exact g3, by rw [e _ (by omega) (by omega) (by omega)]; exact g4, by rw [e _ (by omega) (by omega) (by omega)]; exact g5, by rw [e _ (by omega) (by omega) (by omega)]; exact g6⟩
  · have := hV.le s (by omega)
    rw [e _ (by omega) (by omega) (by omega)]; exact hn s k s1 k1
  · rw [e _ (by omega) (by omega) (by omega), e _ (by omega) (by omega) (by omega)]; exact hh i hi
  · rw [e _ (by omega) (by omega) (by omega), e _ (by omega) (by omega) (by omega), e _ (by omega) (by omega) (by omega)]; exact hw k hk
theorem ntF_0 (F T : Ch) {j : Nat} (h1 : j ≠ 16) (h2 : j ≠ 17) (h3 : j ≠ 18) : ntF F T 0 j = F 0 j := by
  unfold ntF
  rw [upd2_k _ _ h3, upd2_k _ _ h2, upd2_k _ _ h1]
theorem ntF_c (F T : Ch) {c : Nat} (h : c ≠ 0) : ntF F T c = F c := by
  unfold ntF
  rw [upd2_c _ _ h, upd2_c _ _ h, upd2_c _ _ h]
theorem ntF_16 (F T : Ch) : ntF F T 0 16 = 0 := by
  unfold ntF
  rw [upd2_k _ _ (by decide), upd2_k _ _ (by decide), upd2_same]
theorem ntF_17 (F T : Ch) : ntF F T 0 17 = T 0 10 := by
  unfold ntF
  rw [upd2_k _ _ (by decide), upd2_same]
theorem ntF_18 (F T : Ch) : ntF F T 0 18 = if T 0 10 = 0 then -1 else T 0 4 := by
  unfold ntF
  rw [upd2_same]
theorem zA_m3 (M : Mem) (Z : Ch) (A : Nat → Int) {a b c : Nat} (P Q R : Ch) (ha : a ≠ 24) (hb : b ≠ 24) (hc : c ≠ 24) : m3 (zA M Z A) a b c P Q R = zA (m3 M a b c P Q R) Z A := by
  unfold m3
  rw [zA_set M Z A _ ha, zA_set _ Z A _ hb, zA_set _ Z A _ hc]
theorem zA_ch1 (M : Mem) (Z : Ch) (A : Nat → Int) {rs : Nat} (q : QS) (h : rs ≠ 24) : chM1 (zA M Z A) rs q = zA (chM1 M rs q) Z A := by
  unfold chM1
  rw [zA_m3 M Z A _ _ _ (by decide) (by decide) h, zA_r M Z A (by decide), zA_set _ Z A _ (by decide)]
theorem zA_ch2 (M : Mem) (Z : Ch) (A : Nat → Int) {rc rs ry : Nat} (h : ry ≠ 24) : chM2 (zA M Z A) rc rs ry = zA (chM2 M rc rs ry) Z A := by
  unfold chM2
  rw [zA_r M Z A (by decide), zA_r M Z A h, zA_set _ Z A _ (by decide), zA_set _ Z A _ h]
theorem zA_yr1 (M : Mem) (Z : Ch) (A : Nat → Int) {rz : Nat} (q : QS) (h : rz ≠ 24) : yrM1 (zA M Z A) rz q = zA (yrM1 M rz q) Z A := by
  unfold yrM1
  rw [zA_m3 M Z A _ _ _ (by decide) (by decide) h, zA_r M Z A (by decide), zA_set _ Z A _ (by decide)]
theorem zA_yr2 (M : Mem) (Z : Ch) (A : Nat → Int) {ry rz : Nat} : yrM2 (zA M Z A) ry rz = zA (yrM2 M ry rz) Z A := by
  unfold yrM2
  rw [zA_r M Z A (by decide), zA_set _ Z A _ (by decide)]
theorem ch1_o (M : Mem) {rs r : Nat} (q : QS) (h0 : r ≠ 0) (h1 : r ≠ 1) (h2 : r ≠ 2) (h3 : r ≠ rs) : chM1 M rs q r = M r := by
  unfold chM1
  rw [setR_ne _ _ h0, m3_o M _ _ _ h1 h2 h3]
theorem ch1_0 (M : Mem) {rs : Nat} (q : QS) : chM1 M rs q 0 = ntF (M 0) q.2.2.1 := setR_same _ _ _
theorem ch1_2 (M : Mem) {rs : Nat} (q : QS) (h : 16 ≤ rs) : chM1 M rs q 2 = q.2.2.1 := by
  unfold chM1
  rw [setR_ne _ _ (by decide), m3_b M (O12 h)]
theorem ch1_s (M : Mem) {rs : Nat} (q : QS) (h : 16 ≤ rs) : chM1 M rs q rs = q.2.2.2 := by
  unfold chM1
  rw [setR_ne _ _ (by omega), m3_c M]
theorem yr1_o (M : Mem) {rs r : Nat} (q : QS) (h0 : r ≠ 0) (h1 : r ≠ 3) (h2 : r ≠ 4) (h3 : r ≠ rs) : yrM1 M rs q r = M r := by
  unfold yrM1
  rw [setR_ne _ _ h0, m3_o M _ _ _ h1 h2 h3]
theorem yr1_0 (M : Mem) {rs : Nat} (q : QS) : yrM1 M rs q 0 = ntF (M 0) q.2.2.1 := setR_same _ _ _
theorem yr1_3 (M : Mem) {rs : Nat} (q : QS) (h : 18 ≤ rs) : yrM1 M rs q 3 = q.2.1 := by
  unfold yrM1
  rw [setR_ne _ _ (by decide), m3_a M (O34 h)]
theorem yr1_4 (M : Mem) {rs : Nat} (q : QS) (h : 18 ≤ rs) : yrM1 M rs q 4 = q.2.2.1 := by
  unfold yrM1
  rw [setR_ne _ _ (by decide), m3_b M (O34 h)]
theorem yr1_s (M : Mem) {rs : Nat} (q : QS) (h : 18 ≤ rs) : yrM1 M rs q rs = q.2.2.2 := by
  unfold yrM1
  rw [setR_ne _ _ (by omega), m3_c M]
theorem IVs.nt {M M' : Mem} {Z Z' : Ch} (h : IVs M Z) (T : Ch) (e : ∀ j, 13 ≤ j → M' 0 0 j = ntF (M 0) T 0 j) (e2 : M' 0 2 = M 0 2) (z2 : Z' 0 2 = Z 0 2) (z3 : Z' 0 3 = Z 0 3) (z4 : Z' 0 4 = Z 0 4) (z21 : Z' 0 21 = 0) (z10 : Z' 0 10 = 0) (z6 : Z' 6 = Z 6) (z16 : Z' 0 16 = T 0 10) (z17 : Z' 0 17 = if T 0 10 = 0 then -1 else T 0 4) : IVs M' Z' := by
  obtain ⟨⟨a1, a2, a3, a4, a5⟩, b, c, d, x1, x2⟩ := h
  unfold IVs XR
  rw [e 13 (by omega), e 14 (by omega), e 15 (by omega), e 16 (by omega), e 17 (by omega), e 18 (by omega), e2, z2, z3, z4, z21, z10, z6, z16, z17, ntF_16, ntF_17, ntF_18, ntF_0 _ _ (by omega) (by omega) (by omega), ntF_0 _ _ (by omega) (by omega) (by omega), ntF_0 _ _ (by omega) (by omega) (by omega)]
  exact ⟨⟨a1, a2, a3, rfl, rfl⟩, rfl, ⟨(by omega), (by omega)⟩, d, rfl, x2⟩
theorem YG.forg {Y : Ch} {n m : Int} (h : YG Y n) : YG (forgY Y) m := by
  have e8 : forgY Y 0 8 = 0 := by unfold forgY; rw [upd2_same]
  have e7 : forgY Y 0 7 = 0 := by unfold forgY; rw [upd2_k _ _ (by decide), upd2_same]
  have e6 : forgY Y 0 6 = 0 := by unfold forgY; rw [upd2_k _ _ (by decide), upd2_k _ _ (by decide), upd2_same]
  refine ⟨?_, ?_, fun q => by omega, fun _ => e6⟩
  · unfold YB
    rw [e6, e7, e8]
    exact ⟨⟨(by omega), (by omega)⟩, ⟨(by omega), (by omega)⟩, Or.inl rfl⟩
  · unfold forgY
    exact ((h.2.1.u ⟨(by omega), (by omega), (by omega), (by omega), (by omega), (by omega)⟩).u ⟨(by omega), (by omega), (by omega), (by omega), (by omega), (by omega)⟩).u ⟨(by omega), (by omega), (by omega), (by omega), (by omega), (by omega)⟩
theorem RY_forg {Y : Ch} {A : Nat → Int} (h : A 4 = -1) : RY (forgY Y) A 0 := by
  have e8 : forgY Y 0 8 = 0 := by unfold forgY; rw [upd2_same]
  have e6 : forgY Y 0 6 = 0 := by unfold forgY; rw [upd2_k _ _ (by decide), upd2_k _ _ (by decide), upd2_same]
  exact ⟨fun q => by omega, fun _ => h, fun i hi => by omega⟩
set_option maxHeartbeats 1000000 in
theorem IV.c9 {M : Mem} {Z Z' : Ch} {A A' : Nat → Int} {rs : Nat} {q : QS} {L : Nat} (iv : IV M Z A) (h10 : M 0 0 10 = rs) (hT : TI q.2.2.1 L) (hV : VB q.2.2.2) (z : ZQ 0 Z Z') (a : ∀ j, j < 2408 → A' j = A j) (z21 : Z' 0 21 = 0) (z10 : Z' 0 10 = 0) (z16 : Z' 0 16 = q.2.2.1 0 10) (z17 : Z' 0 17 = q.2.2.1 0 4) (t : 1 ≤ q.2.2.1 0 10) : IV (chM1 M rs q) Z' A' := by
  obtain ⟨rc, rs2, ry, rz, hf, hc, hs, ht, hl, hr, hk⟩ := iv
  have f5 := hf.2.1
  have f6 := hf.2.2.1
  have : rs2 = rs := by have := hf.1.2.1; omega
  subst this
  have e : ∀ r, r ≠ 0 → r ≠ 1 → r ≠ 2 → r ≠ rs2 → chM1 M rs2 q r = M r := fun r h0 h1 h2 h3 => ch1_o M q h0 h1 h2 h3
  have z0 : ∀ k, ¬ (10 ≤ k ∧ k ≤ 21) → Z' 0 k = Z 0 k := fun k hk => z 0 k (by omega) (by decide) (by omega)
  have zc : ∀ c, c ≠ 0 → c ≠ 7 → c ≠ 2 → Z' c = Z c := fun c h1 h2 h3 => funext (fun k => z c k (by omega) h2 (by omega))
  have z2 : ∀ k, k < 32 → Z' 2 k = Z 2 k := fun k hk => z 2 k (by omega) (by decide) (by omega)
  refine ⟨rc, rs2, ry, rz, ?_, hc.cg (e _ (by omega) (by omega) (by omega) (by omega)) (e _ (by omega) (by omega) (by omega) (by omega)) (fun k hk => z2 k (by omega)) (fun j hj => a j (by omega)), hs.nt q.2.2.1 (fun j _ => by rw [ch1_0]) (by rw [ch1_0, ntF_c _ _ (by decide)]) (z0 _ (by omega)) (z0 _ (by omega)) (z0 _ (by omega)) z21 z10 (zc 6 (by omega) (by omega) (by omega)) z16 (by rw [z17, if_neg (by omega)]), ht.cg (fun r r1 r2 => e _ (by omega) (by omega) (by omega) (by omega)) (zc _ (by omega) (by omega) (by omega)) (zc _ (by omega) (by omega) (by omega)) (zc _ (by omega) (by omega) (by omega)), hl.cg (e _ (by omega) (by omega) (by omega) (by omega)) (e _ (by omega) (by omega) (by omega) (by omega)) (z0 _ (by omega)) (zc _ (by omega) (by omega) (by omega)), ?_, hk.cg (fun r r1 r2 => e _ (by omega) (by omega) (by omega) (by omega)) (z0 _ (by omega)) (fun k _ k2 => z2 k k2) (fun j _ j2 => a j j2)⟩
  · obtain ⟨⟨g1, g2, g3, g4⟩, _, _, g7, g8⟩ := hf
    refine ⟨?_, f5, f6, by rw [ch1_s M q (by omega)]; exact hV, by rw [e rz (by omega) (by omega) (by omega) (by omega)]; exact g8⟩
    rw [ch1_0, ntF_0 _ _ (by omega) (by omega) (by omega), ntF_0 _ _ (by omega) (by omega) (by omega), ntF_0 _ _ (by omega) (by omega) (by omega), ntF_0 _ _ (by omega) (by omega) (by omega)]
    exact ⟨g1, g2, g3, g4⟩
  · unfold IVr
    rw [ch1_2 M q (by omega), e 3 (by omega) (by omega) (by omega) (by omega), e 4 (by omega) (by omega) (by omega) (by omega)]
    exact ⟨hT.tg, hr.2⟩
set_option maxHeartbeats 1000000 in
theorem IV.cy {M : Mem} {Z Z' : Ch} {A A' : Nat → Int} {rc rs ry : Nat} {q : QS} {L : Nat} (iv : IV M Z A) (h9 : M 0 0 9 = rc) (h10 : M 0 0 10 = rs) (h11 : M 0 0 11 = ry) (hT : TI q.2.2.1 L) (z : ZQ 8 Z Z') (a : ∀ j, 602 ≤ j → j < 2408 → A' j = A j) (z21 : Z' 0 21 = 0) (z10 : Z' 0 10 = 0) (z16 : Z' 0 16 = 0) (z17 : Z' 0 17 = -1) (t : q.2.2.1 0 10 = 0) (hW : WX q.2.2.2) (hR : RX q.2.2.2 A' 0) (hN : NR q.2.2.2 Z' 0) (h4 : A' 4 = -1) : IV (chM2 (chM1 M rs q) rc rs ry) Z' A' := by
  obtain ⟨rc2, rs2, ry2, rz, hf, hc, hs, ht, hl, hr, hk⟩ := iv
  have f5 := hf.2.1
  have f6 := hf.2.2.1
  have : rs2 = rs := by have := hf.1.2.1; omega
  subst this
  have : rc2 = rc := by have := hf.1.1; omega
  subst this
  have : ry2 = ry := by have := hf.1.2.2.1; omega
  subst this
  have e : ∀ r, r ≠ 0 → r ≠ 1 → r ≠ 2 → r ≠ rs2 → r ≠ ry2 → chM2 (chM1 M rs2 q) rc2 rs2 ry2 r = M r := fun r h0 h1 h2 h3 h4 => by
    unfold chM2
    rw [setR_ne _ _ h4, setR_ne _ _ h0, ch1_o M q h0 h1 h2 h3]
  have e0 : chM2 (chM1 M rs2 q) rc2 rs2 ry2 0 = upd2 (upd2 (ntF (M 0) q.2.2.1) 0 9 rs2) 0 10 rc2 := by
    unfold chM2
    rw [setR_ne _ _ (by omega), setR_same, ch1_0]
  have e2 : chM2 (chM1 M rs2 q) rc2 rs2 ry2 2 = q.2.2.1 := by
    unfold chM2
    rw [setR_ne _ _ (by omega), setR_ne _ _ (by omega), ch1_2 M q (by omega)]
  have es : chM2 (chM1 M rs2 q) rc2 rs2 ry2 rs2 = q.2.2.2 := by
    unfold chM2
    rw [setR_ne _ _ (by omega), setR_ne _ _ (by omega), ch1_s M q (by omega)]
  have ey : chM2 (chM1 M rs2 q) rc2 rs2 ry2 ry2 = forgY (M ry2) := by
    unfold chM2
    rw [setR_same, ch1_o M q (by omega) (by omega) (by omega) (by omega)]
  have z0 : ∀ k, ¬ (10 ≤ k ∧ k ≤ 21) → Z' 0 k = Z 0 k := fun k hk => z 0 k (by omega) (by decide) (by omega)
  have zc : ∀ c, c ≠ 0 → c ≠ 7 → c ≠ 2 → Z' c = Z c := fun c h1 h2 h3 => funext (fun k => z c k (by omega) h2 (by omega))
  have z2 : ∀ k, 8 ≤ k → k < 32 → Z' 2 k = Z 2 k := fun k hk hk2 => z 2 k (by omega) (by decide) (by omega)
  refine ⟨rs2, rc2, ry2, rz, ?_, ?_, hs.nt q.2.2.1 (fun j hj => by rw [e0, upd2_k _ _ (by omega), upd2_k _ _ (by omega)]) (by rw [e0, upd2_c _ _ (by decide), upd2_c _ _ (by decide), ntF_c _ _ (by decide)]) (z0 _ (by omega)) (z0 _ (by omega)) (z0 _ (by omega)) z21 z10 (zc 6 (by omega) (by omega) (by omega)) (by rw [z16, t]) (by rw [z17, if_pos t]), ht.cg (fun r r1 r2 => e _ (by omega) (by omega) (by omega) (by omega) (by omega)) (zc _ (by omega) (by omega) (by omega)) (zc _ (by omega) (by omega) (by omega)) (zc _ (by omega) (by omega) (by omega)), hl.cg (e _ (by omega) (by omega) (by omega) (by omega) (by omega)) (e _ (by omega) (by omega) (by omega) (by omega) (by omega)) (z0 _ (by omega)) (zc _ (by omega) (by omega) (by omega)), ?_, hk.cg (fun r r1 r2 => e _ (by omega) (by omega) (by omega) (by omega) (by omega)) (z0 _ (by omega)) z2 a⟩
  · obtain ⟨⟨g1, g2, g3, g4⟩, _, _, g7, g8⟩ := hf
    refine ⟨?_, (by omega), f6, by rw [e rc2 (by omega) (by omega) (by omega) (by omega) (by omega)]; exact hc.1.1, by rw [e rz (by omega) (by omega) (by omega) (by omega) (by omega)]; exact g8⟩
    rw [e0]
    refine ⟨?_, ?_, ?_, ?_⟩
    · rw [upd2_k _ _ (by omega), upd2_same]
    · rw [upd2_same]
    · rw [upd2_k _ _ (by omega), upd2_k _ _ (by omega), ntF_0 _ _ (by omega) (by omega) (by omega)]; exact g3
    · rw [upd2_k _ _ (by omega), upd2_k _ _ (by omega), ntF_0 _ _ (by omega) (by omega) (by omega)]; exact g4
  · unfold IVc
    rw [es, ey]
    exact ⟨hW, hR, hN, hc.2.2.2.1.forg, RY_forg h4⟩
  · unfold IVr
    rw [e2, e 3 (by omega) (by omega) (by omega) (by omega) (by omega), e 4 (by omega) (by omega) (by omega) (by omega) (by omega)]
    exact ⟨hT.tg, hr.2⟩
set_option maxHeartbeats 1000000 in
theorem IV.y9 {M : Mem} {Z Z' : Ch} {A A' : Nat → Int} {rs : Nat} {q : QS} {L : Nat} (iv : IV M Z A) (h12 : M 0 0 12 = rs) (hQ : QI q L) (z : ZW Z Z') (a : ∀ j, j < 2408 → A' j = A j) (z10 : Z' 0 10 = 0) (z16 : Z' 0 16 = q.2.2.1 0 10) (z17 : Z' 0 17 = q.2.2.1 0 4) (t : 1 ≤ q.2.2.1 0 10) : IV (yrM1 M rs q) Z' A' := by
  obtain ⟨rc, rs2, ry, rz, hf, hc, hs, ht, hl, hr, hk⟩ := iv
  have f5 := hf.2.1
  have f6 := hf.2.2.1
  have : rz = rs := by have := hf.1.2.2.2; omega
  subst this
  have e : ∀ r, r ≠ 0 → r ≠ 3 → r ≠ 4 → r ≠ rz → yrM1 M rz q r = M r := fun r h0 h1 h2 h3 => yr1_o M q h0 h1 h2 h3
  have z0 : ∀ k, ¬ (10 ≤ k ∧ k ≤ 19) → k ≠ 23 → k ≠ 24 → Z' 0 k = Z 0 k := fun k hk k1 k2 => z 0 k (by omega) (by decide) (by decide)
  have zc : ∀ c, c ≠ 0 → c ≠ 7 → c ≠ 8 → Z' c = Z c := fun c h1 h2 h3 => funext (fun k => z c k (by omega) h2 h3)
  refine ⟨rc, rs2, ry, rz, ?_, hc.cg (e _ (by omega) (by omega) (by omega) (by omega)) (e _ (by omega) (by omega) (by omega) (by omega)) (fun k hk => by rw [zc 2 (by omega) (by omega) (by omega)]) (fun j hj => a j (by omega)), hs.nt q.2.2.1 (fun j _ => by rw [yr1_0]) (by rw [yr1_0, ntF_c _ _ (by decide)]) (z0 _ (by omega) (by omega) (by omega)) (z0 _ (by omega) (by omega) (by omega)) (z0 _ (by omega) (by omega) (by omega)) (by rw [z0 21 (by omega) (by omega) (by omega)]; exact hs.2.1) z10 (zc 6 (by omega) (by omega) (by omega)) z16 (by rw [z17, if_neg (by omega)]), ht.cg (fun r r1 r2 => e _ (by omega) (by omega) (by omega) (by omega)) (zc _ (by omega) (by omega) (by omega)) (zc _ (by omega) (by omega) (by omega)) (zc _ (by omega) (by omega) (by omega)), hl.cg (e _ (by omega) (by omega) (by omega) (by omega)) (e _ (by omega) (by omega) (by omega) (by omega)) (z0 _ (by omega) (by omega) (by omega)) (zc _ (by omega) (by omega) (by omega)), ?_, hk.cg (fun r r1 r2 => e _ (by omega) (by omega) (by omega) (by omega)) (z0 _ (by omega) (by omega) (by omega)) (fun k _ k2 => by rw [zc 2 (by omega) (by omega) (by omega)]) (fun j _ j2 => a j j2)⟩
  · obtain ⟨⟨g1, g2, g3, g4⟩, _, _, g7, g8⟩ := hf
    refine ⟨?_, f5, f6, by rw [e rs2 (by omega) (by omega) (by omega) (by omega)]; exact g7, by rw [yr1_s M q (by omega)]; exact hQ.2.1⟩
    rw [yr1_0, ntF_0 _ _ (by omega) (by omega) (by omega), ntF_0 _ _ (by omega) (by omega) (by omega), ntF_0 _ _ (by omega) (by omega) (by omega), ntF_0 _ _ (by omega) (by omega) (by omega)]
    exact ⟨g1, g2, g3, g4⟩
  · unfold IVr
    rw [e 2 (by omega) (by omega) (by omega) (by omega), yr1_3 M q (by omega), yr1_4 M q (by omega)]
    exact ⟨hr.1, hQ.1.tg, hQ.2.2.2.1⟩
set_option maxHeartbeats 1000000 in
theorem IV.yy {M : Mem} {Z Z' : Ch} {A A' : Nat → Int} {rc ry rz : Nat} {q : QS} {L : Nat} (iv : IV M Z A) (h9 : M 0 0 9 = rc) (h11 : M 0 0 11 = ry) (h12 : M 0 0 12 = rz) (hQ : QI q L) (z : ZW Z Z') (a : ∀ j, ((j < 238 ∧ j ≠ 4) ∨ (602 ≤ j ∧ j < 2408)) → A' j = A j) (z10 : Z' 0 10 = 0) (z16 : Z' 0 16 = 0) (z17 : Z' 0 17 = -1) (t : q.2.2.1 0 10 = 0) (hP : YP q.2.2.2 (M rc 0 8)) (h8 : q.2.2.2 0 8 = 1) (hR : RY q.2.2.2 A' 0) : IV (yrM2 (yrM1 M rz q) ry rz) Z' A' := by
  obtain ⟨rc2, rs, ry2, rz2, hf, hc, hs, ht, hl, hr, hk⟩ := iv
  have f5 := hf.2.1
  have f6 := hf.2.2.1
  have : rz2 = rz := by have := hf.1.2.2.2; omega
  subst this
  have : rc2 = rc := by have := hf.1.1; omega
  subst this
  have : ry2 = ry := by have := hf.1.2.2.1; omega
  subst this
  have e : ∀ r, r ≠ 0 → r ≠ 3 → r ≠ 4 → r ≠ rz2 → yrM2 (yrM1 M rz2 q) ry2 rz2 r = M r := fun r h0 h1 h2 h3 => by
    unfold yrM2
    rw [setR_ne _ _ h0, yr1_o M q h0 h1 h2 h3]
  have e0 : yrM2 (yrM1 M rz2 q) ry2 rz2 0 = upd2 (upd2 (ntF (M 0) q.2.2.1) 0 11 rz2) 0 12 ry2 := by
    unfold yrM2
    rw [setR_same, yr1_0]
  have e3 : yrM2 (yrM1 M rz2 q) ry2 rz2 3 = q.2.1 := by
    unfold yrM2
    rw [setR_ne _ _ (by omega), yr1_3 M q (by omega)]
  have e4 : yrM2 (yrM1 M rz2 q) ry2 rz2 4 = q.2.2.1 := by
    unfold yrM2
    rw [setR_ne _ _ (by omega), yr1_4 M q (by omega)]
  have ey : yrM2 (yrM1 M rz2 q) ry2 rz2 rz2 = q.2.2.2 := by
    unfold yrM2
    rw [setR_ne _ _ (by omega), yr1_s M q (by omega)]
  have z0 : ∀ k, ¬ (10 ≤ k ∧ k ≤ 19) → k ≠ 23 → k ≠ 24 → Z' 0 k = Z 0 k := fun k hk k1 k2 => z 0 k (by omega) (by decide) (by decide)
  have zc : ∀ c, c ≠ 0 → c ≠ 7 → c ≠ 8 → Z' c = Z c := fun c h1 h2 h3 => funext (fun k => z c k (by omega) h2 h3)
  refine ⟨rc2, rs, rz2, ry2, ?_, ?_, hs.nt q.2.2.1 (fun j hj => by rw [e0, upd2_k _ _ (by omega), upd2_k _ _ (by omega)]) (by rw [e0, upd2_c _ _ (by decide), upd2_c _ _ (by decide), ntF_c _ _ (by decide)]) (z0 _ (by omega) (by omega) (by omega)) (z0 _ (by omega) (by omega) (by omega)) (z0 _ (by omega) (by omega) (by omega)) (by rw [z0 21 (by omega) (by omega) (by omega)]; exact hs.2.1) z10 (zc 6 (by omega) (by omega) (by omega)) (by rw [z16, t]) (by rw [z17, if_pos t]), ht.cg (fun r r1 r2 => e _ (by omega) (by omega) (by omega) (by omega)) (zc _ (by omega) (by omega) (by omega)) (zc _ (by omega) (by omega) (by omega)) (zc _ (by omega) (by omega) (by omega)), hl.cg (e _ (by omega) (by omega) (by omega) (by omega)) (e _ (by omega) (by omega) (by omega) (by omega)) (z0 _ (by omega) (by omega) (by omega)) (zc _ (by omega) (by omega) (by omega)), ?_, hk.cg (fun r r1 r2 => e _ (by omega) (by omega) (by omega) (by omega)) (z0 _ (by omega) (by omega) (by omega)) (fun k _ k2 => by rw [zc 2 (by omega) (by omega) (by omega)]) (fun j j1 j2 => a j (by omega))⟩
  · obtain ⟨⟨g1, g2, g3, g4⟩, _, _, g7, g8⟩ := hf
    refine ⟨?_, f5, (by omega), by rw [e rs (by omega) (by omega) (by omega) (by omega)]; exact g7, by rw [e ry2 (by omega) (by omega) (by omega) (by omega)]; exact hc.2.2.2.1.2.1⟩
    rw [e0]
    refine ⟨?_, ?_, ?_, ?_⟩
    · rw [upd2_k _ _ (by omega), upd2_k _ _ (by omega), ntF_0 _ _ (by omega) (by omega) (by omega)]; exact g1
    · rw [upd2_k _ _ (by omega), upd2_k _ _ (by omega), ntF_0 _ _ (by omega) (by omega) (by omega)]; exact g2
    · rw [upd2_k _ _ (by omega), upd2_same]
    · rw [upd2_same]
  · obtain ⟨w1, w2, w3, w4, w5⟩ := hc
    unfold IVc
    rw [e rc2 (by omega) (by omega) (by omega) (by omega), ey]
    refine ⟨w1, RR.fr4 (VB_fx w1.1) w2 (fun j _ j2 j3 => a j (by omega)), w3.cg w1.1 (fun k _ _ => by rw [zc 2 (by omega) (by omega) (by omega)]), ⟨?_, hQ.2.1, fun _ => hP, fun q8 => by omega⟩, hR⟩
    have := hQ.2.2.2.2
    exact ⟨this.2.2.1, ⟨this.2.1.1, (by omega)⟩, this.2.2.2⟩
  · unfold IVr
    rw [e 2 (by omega) (by omega) (by omega) (by omega), e3, e4]
    exact ⟨hr.1, hQ.1.tg, hQ.2.2.2.1⟩
theorem yFin_8 {q : QS} (h : (yFin q).1 = true) : (yFin q).2.2.2 0 8 = 1 := by
  unfold yFin at h ⊢
  split at h
  · split at h
    · rename_i c1 c2
      rw [if_pos c1, if_pos c2]
      exact upd2_same q.2.2.2 0 8 1
    · exact absurd h (by simp)
  · rename_i c; exact absurd h c
set_option maxHeartbeats 1000000 in
theorem i_choir {l : Launch} {E : EnvT} {d : Nat} {M : Mem} {Z : Ch} {A : Nat → Int} {n : Int} (hd : 20 ≤ d) (iv : IV M Z A) (n1 : -2147483648 ≤ n) (n2 : n < 2147483648) : CT l E d m_FN_choir [(.ref 0, 0), (.int (iN n), 0)] (zA M Z A) (fun v1 M1 => CT l E d m_Mod_choir [(.ref 24, 41), (.int (iN n), 0)] M1 (fun v2 M2 => PST v1 v2 M2)) := by
  obtain ⟨rc, rs, ry, rz, hf, hc, hs, ht, hl, hr, hk⟩ := id iv
  have f5 := hf.2.1
  have f6 := hf.2.2.1
  have fc := hf.fc hc
  have fy := hf.fy hc
  have e0 : zA M Z A 0 = M 0 := zA_r M Z A (by decide)
  have e1 : zA M Z A 1 = M 1 := zA_r M Z A (by decide)
  have e2 : zA M Z A 2 = M 2 := zA_r M Z A (by decide)
  have es : zA M Z A rs = M rs := zA_r M Z A (by omega)
  have hX : XBn (M 0 2) := hs.2.2.2.1
  have hXR := hs.2.2.2.2
  have t1 := hs.2.2.1.1
  have t2 := hs.2.2.1.2
  have hT := hr.1
  have hS := hf.2.2.2.1
  refine c_choirQ (rc := rc) (rs := rs) (ry := ry) (by omega) fc (by rw [e0]; exact hf.1.2.1) f5 (by rw [es]; exact hS) fy (by rw [e2]; exact hT) (by unfold XB; rw [e0]; exact hX) (by rw [e0]; exact t1) (by rw [e0]; exact t2) n1 n2 (fun c => ?_) (fun L hL c b => ?_) (fun L hL c b => ?_)
  · rw [e0] at c
    rw [zA_st]
    exact r_choir (F := M 0) (H := M 1) (T := M 2) (S := M rs) (by omega) hX hXR t1 t2 hT hS n1 n2 (fun _ => ⟨rfl, _, _, _, rfl, iv.st _⟩) (fun L2 q1 q2 _ => absurd ⟨by omega, q2⟩ c) (fun L2 q1 q2 _ => absurd ⟨by omega, q2⟩ c)
  · rw [e0, e1, e2, es] at b
    rw [e0] at c
    rw [e0, e1, e2, es, zA_ch1 M Z A _ (by omega), zA_st]
    have pi := rAll_PI (L := L) (by omega) hX (A := M 1) hT hS
    refine r_choir (F := M 0) (H := M 1) (T := M 2) (S := M rs) (by omega) hX hXR t1 t2 hT hS n1 n2 (fun q => absurd ⟨by omega, c⟩ q) (fun L2 q1 q2 q3 Z2 A2 w1 w2 w3 w4 w5 w6 w7 => ?_) (fun L2 q1 q2 q3 => ?_)
    · have : L2 = L := (by omega)
      subst this
      exact ⟨rfl, _, _, _, rfl, (iv.c9 hf.1.2.1 pi.1 pi.2 w1 w2 w3 w4 w5 w6 w7).st _⟩
    · have : L2 = L := (by omega)
      subst this
      rw [b] at q3
      exact absurd q3 (by decide)
  · rw [e0, e1, e2, es] at b
    rw [e0] at c
    rw [e0, e1, e2, es, zA_ch1 M Z A _ (by omega), zA_ch2 _ Z A (by omega), zA_st]
    have pi := rAll_PI (L := L) (by omega) hX (A := M 1) hT hS
    refine r_choir (F := M 0) (H := M 1) (T := M 2) (S := M rs) (by omega) hX hXR t1 t2 hT hS n1 n2 (fun q => absurd ⟨by omega, c⟩ q) (fun L2 q1 q2 q3 => ?_) (fun L2 q1 q2 q3 Z2 A2 w1 w2 w3 w4 w5 w6 w7 w8 w9 w10 w11 => ?_)
    · have : L2 = L := (by omega)
      subst this
      rw [b] at q3
      exact absurd q3 (by decide)
    · have : L2 = L := (by omega)
      subst this
      exact ⟨rfl, _, _, _, rfl, (iv.cy hf.1.1 hf.1.2.1 hf.1.2.2.1 pi.1 w1 w2 w3 w4 w5 w6 w7 w8.x (RR.x w8 w9) w10 w11).st _⟩
set_option maxHeartbeats 1000000 in
theorem i_years {l : Launch} {E : EnvT} {d : Nat} {M : Mem} {Z : Ch} {A : Nat → Int} {n : Int} (hd : 20 ≤ d) (iv : IV M Z A) (n1 : -2147483648 ≤ n) (n2 : n < 2147483648) : CT l E d m_FN_years [(.ref 0, 0), (.int (iN n), 0)] (zA M Z A) (fun v1 M1 => CT l E d m_Mod_years [(.ref 24, 41), (.int (iN n), 0)] M1 (fun v2 M2 => PST v1 v2 M2)) := by
  obtain ⟨rc, rs, ry, rz, hf, hc, hs, ht, hl, hr, hk⟩ := id iv
  have f5 := hf.2.1
  have f6 := hf.2.2.1
  have fc := hf.fc hc
  have fy := hf.fy hc
  have e0 : zA M Z A 0 = M 0 := zA_r M Z A (by decide)
  have e3 : zA M Z A 3 = M 3 := zA_r M Z A (by decide)
  have e4 : zA M Z A 4 = M 4 := zA_r M Z A (by decide)
  have ec : zA M Z A rc = M rc := zA_r M Z A (by omega)
  have ez : zA M Z A rz = M rz := zA_r M Z A (by omega)
  have hX : XBn (M 0 2) := hs.2.2.2.1
  have hXR := hs.2.2.2.2
  have t1 := hs.2.2.1.1
  have t2 := hs.2.2.1.2
  have hT := hr.2.1
  have hO := hr.2.2
  have hY := hf.2.2.2.2
  have hV := hc.1.1
  have g0 : A 0 = M rc 0 8 := hc.2.1.1.1
  have hN := hc.2.2.1
  refine c_yearsQ (rc := rc) (rz := rz) (ry := ry) (by omega) fc fy (by rw [e0]; exact hf.1.2.2.2) f6 (by rw [ez]; exact hY) (by rw [e4]; exact hT) (by unfold XB; rw [e0]; exact hX) (by rw [e3]; exact hO) (by rw [e0]; exact t1) (by rw [e0]; exact t2) n1 n2 (fun c => ?_) (fun L hL c c3 b => ?_) (fun L hL c c3 b => ?_)
  · rw [e0] at c
    rw [zA_st]
    exact r_years (F := M 0) (C := M rc) (D := M 3) (T := M 4) (Y := M rz) (by omega) hX hXR t1 t2 hT hV hY hO g0 hN n1 n2 (fun _ => ⟨rfl, _, _, _, rfl, iv.st _⟩) (fun L2 q1 q2 q3 _ => absurd ⟨by omega, q2, q3⟩ c) (fun L2 q1 q2 q3 _ => absurd ⟨by omega, q2, q3⟩ c)
  · rw [e0, e3, e4, ec, ez] at b
    rw [e0] at c
    rw [e0, e3, e4, ec, ez, zA_yr1 M Z A _ (by omega), zA_st]
    have pi := yAll_QI (L := L) (by omega) hX hV hT hY hO
    refine r_years (F := M 0) (C := M rc) (D := M 3) (T := M 4) (Y := M rz) (by omega) hX hXR t1 t2 hT hV hY hO g0 hN n1 n2 (fun q => absurd ⟨by omega, c, c3⟩ q) (fun L2 q1 q2 q4 q3 Z2 A2 w1 w2 w4 w5 w6 w7 => ?_) (fun L2 q1 q2 q4 q3 => ?_)
    · have : L2 = L := (by omega)
      subst this
      exact ⟨rfl, _, _, _, rfl, (iv.y9 hf.1.2.2.2 pi w1 w2 w4 w5 w6 w7).st _⟩
    · have : L2 = L := (by omega)
      subst this
      rw [b] at q3
      exact absurd q3 (by decide)
  · rw [e0, e3, e4, ec, ez] at b
    rw [e0] at c
    rw [e0, e3, e4, ec, ez, zA_yr1 M Z A _ (by omega), zA_yr2 _ Z A, zA_st]
    have pi := yAll_QI (L := L) (by omega) hX hV hT hY hO
    refine r_years (F := M 0) (C := M rc) (D := M 3) (T := M 4) (Y := M rz) (by omega) hX hXR t1 t2 hT hV hY hO g0 hN n1 n2 (fun q => absurd ⟨by omega, c, c3⟩ q) (fun L2 q1 q2 q4 q3 => ?_) (fun L2 q1 q2 q4 q3 Z2 A2 w1 w2 w4 w5 w6 w7 w8 w9 => ?_)
    · have : L2 = L := (by omega)
      subst this
      rw [b] at q3
      exact absurd q3 (by decide)
    · have : L2 = L := (by omega)
      subst this
      have y8 : (yAll (M 0 2) L2 (M rc) (M 3) (M 4) (M rz)).2.2.2 0 8 = 1 := yFin_8 b
      exact ⟨rfl, _, _, _, rfl, (iv.yy hf.1.1 hf.1.2.2.1 hf.1.2.2.2 pi w1 w2 w4 w5 w6 w7 w8 y8 w9).st _⟩
