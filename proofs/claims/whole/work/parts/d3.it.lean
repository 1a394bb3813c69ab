theorem IV.chx {M : Mem} {Z : Ch} {A A' : Nat → Int} {rc : Nat} {C' : Ch} (iv : IV M Z A) (h9 : M 0 0 9 = rc) (kp : KX (M rc) C') (hR : RX C' A' 0) (fA : FrA 0 A A') : IV (setR M rc C') Z A' := by
  obtain ⟨rc2, rs, ry, rz, hf, hc, hs, ht, hl, hr, hk⟩ := iv
  have : rc2 = rc := by have := hf.1.1; omega
  subst this
  exact IV.ch hf hc hs ht hl hr hk kp.1 kp.2.1 kp.2.2 hR fA
theorem IV.tf {M : Mem} {Z : Ch} {A : Nat → Int} (iv : IV M Z A) (o u : Nat) : IV (tfM M o u) (tfZ Z o u) A := by
  obtain ⟨rc, rs, ry, rz, hf, hc, hs, ht, hl, hr, hk⟩ := iv
  have f5 := hf.2.1
  have f6 := hf.2.2.1
  have e : ∀ r, r ≠ 0 → tfM M o u r = M r := fun r hr => setR_ne _ _ hr
  have e0 : ∀ j, j ≠ 14 → j ≠ 15 → tfM M o u 0 0 j = M 0 0 j := fun j h1 h2 => by unfold tfM; rw [setR_same, upd2_k _ _ h2, upd2_k _ _ h1]
  have ec : ∀ c, c ≠ 0 → tfM M o u 0 c = M 0 c := fun c h => by unfold tfM; rw [setR_same, upd2_c _ _ h, upd2_c _ _ h]
  have z0 : ∀ j, j ≠ 3 → j ≠ 4 → tfZ Z o u 0 j = Z 0 j := fun j h1 h2 => by unfold tfZ; rw [upd2_k _ _ h2, upd2_k _ _ h1]
  have zc : ∀ c, c ≠ 0 → tfZ Z o u c = Z c := fun c h => by unfold tfZ; rw [upd2_c _ _ h, upd2_c _ _ h]
  refine ⟨rc, rs, ry, rz, hf.cg (fun j j1 j2 => e0 j (by omega) (by omega)) (e _ (by omega)) (e _ (by omega)), hc.cg (e _ (by omega)) (e _ (by omega)) (fun k _ => by rw [zc 2 (by omega)]) (fun _ _ => rfl), ?_, ht.cg (fun r r1 r2 => e _ (by omega)) (zc _ (by omega)) (zc _ (by omega)) (zc _ (by omega)), hl.cg (e _ (by omega)) (e _ (by omega)) (z0 _ (by omega) (by omega)) (zc _ (by omega)), hr.cg (e _ (by omega)) (e _ (by omega)) (e _ (by omega)), hk.cg (fun r r1 r2 => e _ (by omega)) (z0 _ (by omega) (by omega)) (fun k _ _ => by rw [zc 2 (by omega)]) (fun _ _ _ => rfl)⟩
  obtain ⟨⟨a1, a2, a3, a4, a5⟩, b, c, dd, x1, x2⟩ := hs
  refine ⟨⟨by rw [z0 _ (by omega) (by omega), e0 _ (by omega) (by omega)]; exact a1, ?_, ?_, by rw [z0 _ (by omega) (by omega), e0 _ (by omega) (by omega)]; exact a4, by rw [z0 _ (by omega) (by omega), e0 _ (by omega) (by omega)]; exact a5⟩, by rw [z0 _ (by omega) (by omega)]; exact b, by rw [e0 _ (by omega) (by omega)]; exact c, by rw [ec _ (by omega)]; exact dd, by rw [z0 _ (by omega) (by omega), e0 _ (by omega) (by omega)]; exact x1, fun j hj => by rw [zc _ (by omega), ec _ (by omega)]; exact x2 j hj⟩
  · unfold tfZ tfM
    rw [setR_same, upd2_k _ _ (by decide), upd2_same, upd2_k _ _ (by decide), upd2_same]
  · unfold tfZ tfM
    rw [setR_same, upd2_same, upd2_same]
theorem zA_tf (M : Mem) (Z : Ch) (A : Nat → Int) (o u : Nat) : tfM (zA M Z A) o u = zA (tfM M o u) Z A := by
  unfold tfM
  rw [zA_r M Z A (by decide), zA_set M Z A _ (by decide)]
theorem IV.tr {M : Mem} {Z Z' X : Ch} {A : Nat → Int} {j : Nat} (iv : IV M Z A) (hj : j < 4) (hX : TB X) (hTR : TR (setR (zA M Z A) (20 + j) X) Z') (zf : ZF Z Z') : IV (setR M (20 + j) X) Z' A := by
  obtain ⟨rc, rs, ry, rz, hf, hc, hs, ht, hl, hr, hk⟩ := iv
  have f5 := hf.2.1
  have f6 := hf.2.2.1
  have e : ∀ r, ¬ (20 ≤ r ∧ r < 24) → setR M (20 + j) X r = M r := fun r hr => setR_ne _ _ (by omega)
  have z0 := zf 0 (by decide) (by decide) (by decide)
  have z2 := zf 2 (by decide) (by decide) (by decide)
  refine ⟨rc, rs, ry, rz, hf.cg (fun j j1 j2 => by rw [e 0 (by omega)]) (e _ (by omega)) (e _ (by omega)), hc.cg (e _ (by omega)) (e _ (by omega)) (fun k _ => by rw [z2]) (fun _ _ => rfl), ?_, ⟨fun i hi => ?_, fun i hi => ?_⟩, hl.cg (e _ (by omega)) (e _ (by omega)) (by rw [z0]) (zf _ (by decide) (by decide) (by decide)), hr.cg (e _ (by omega)) (e _ (by omega)) (e _ (by omega)), hk.cg (fun r r1 r2 => e _ (by omega)) (by rw [z0]) (fun k _ _ => by rw [z2]) (fun _ _ _ => rfl)⟩
  · unfold IVs XR at hs ⊢
    rw [z0, zf 6 (by decide) (by decide) (by decide), e 0 (by omega)]
    exact hs
  · by_cases q : i = j
    · rw [q, setR_same]; exact hX
    · rw [setR_ne _ _ (by omega)]; exact ht.1 i hi
  · have := hTR i hi
    rw [zA_set M Z A _ (by omega), zA_r _ Z A (by omega)] at this
    exact this
theorem TB_tray {T : Ch} {s n : Int} (s1 : 0 ≤ s) (s2 : s ≤ 3) (n1 : 0 ≤ n) (n2 : n ≤ 60) : TB (upd2 (upd2 (fillC T 1 0 60) 0 1 s) 0 2 n) := by
  unfold TB
  rw [upd2_same, upd2_k _ _ (show 1 ≠ 2 by decide), upd2_same, upd2_c _ _ (show 1 ≠ 0 by decide), upd2_c _ _ (show 1 ≠ 0 by decide)]
  refine ⟨(by omega), (by omega), fun k hk => ?_⟩
  unfold fillC
  rw [if_pos ⟨rfl, hk⟩]
  omega
theorem TB_cells {T : Ch} {f : Nat → Int} (h : TB T) (hf : ∀ k, k < 60 → -9223372036854775808 ≤ f k ∧ f k < 9223372036854775808) : TB (setC T 1 f) := by
  obtain ⟨a, b, c⟩ := h
  unfold TB
  rw [setC_ne _ _ (show 0 ≠ 1 by decide), setC_same]
  exact ⟨a, b, hf⟩
theorem i64_rng (x : Int64) : -9223372036854775808 ≤ x.toInt ∧ x.toInt < 9223372036854775808 := ⟨Int64.le_toInt x, Int64.toInt_lt x⟩
theorem i_tray {l : Launch} {E : EnvT} {d : Nat} {M : Mem} {Z : Ch} {A : Nat → Int} {a b n : Int} (hd : 20 ≤ d) (iv : IV M Z A) (a1 : -2147483648 ≤ a) (a2 : a < 2147483648) (b1 : -2147483648 ≤ b) (b2 : b < 2147483648) (n1 : -2147483648 ≤ n) (n2 : n < 2147483648): CT l E d m_FN_tray [(.ref 0, 0), (.int (iN a), 0), (.int (iN b), 0), (.int (iN n), 0)] (zA M Z A) (fun v1 M1 => CT l E d m_Mod_tray [(.ref 24, 41), (.int (iN a), 0), (.int (iN b), 0), (.int (iN n), 0)] M1 (fun v2 M2 => PST v1 v2 M2)) := by
  obtain ⟨rc, rs, ry, rz, hf, hc, hs, ht, hl, hr, hk⟩ := id iv
  have f5 := hf.2.1
  have f6 := hf.2.2.1
  have er : zA M Z A rc = M rc := zA_r M Z A (by omega)
  have fc := hf.fc hc
  have hB := hs.2.1
  have hW := hc.1
  have hV := hW.1
  have hR := hc.2.1
  have it : IVt (zA M Z A) Z := ht.cg (fun r r1 r2 => zA_r M Z A (by omega)) rfl rfl rfl
  have hT := it.1
  have hTR := it.2
  refine c_trayQ (by omega) a1 a2 b1 b2 n1 n2 (fun c => ?_) (fun c c2 c3 c4 c5 c6 => ?_)
  · rw [zA_st]
    exact r_tray (by omega) hT hTR a1 a2 b1 b2 n1 n2 (fun _ => ⟨rfl, _, _, _, rfl, iv.st _⟩) (fun q1 q2 q3 q4 q5 q6 => absurd ⟨q1, q2, q3, q4, q5, q6⟩ c)
  · rw [zA_set M Z A _ (by omega), zA_st]
    exact r_tray (by omega) hT hTR a1 a2 b1 b2 n1 n2 (fun q => absurd ⟨c, c2, c3, c4, c5, c6⟩ q) (fun _ _ _ _ _ _ Z2 tr zf => ⟨rfl, _, _, _, rfl, (iv.tr (by omega) (TB_tray c3 c4 c5 c6) tr zf).st _⟩)
theorem i_write {l : Launch} {E : EnvT} {d : Nat} {M : Mem} {Z : Ch} {A : Nat → Int} {a b : Int} {x : Int64} (hd : 20 ≤ d) (iv : IV M Z A) (a1 : -2147483648 ≤ a) (a2 : a < 2147483648) (b1 : -2147483648 ≤ b) (b2 : b < 2147483648): CT l E d m_FN_write [(.ref 0, 0), (.int (iN a), 0), (.int (iN b), 0), (.long x, 0)] (zA M Z A) (fun v1 M1 => CT l E d m_Mod_write [(.ref 24, 41), (.int (iN a), 0), (.int (iN b), 0), (.long x, 0)] M1 (fun v2 M2 => PST v1 v2 M2)) := by
  obtain ⟨rc, rs, ry, rz, hf, hc, hs, ht, hl, hr, hk⟩ := id iv
  have f5 := hf.2.1
  have f6 := hf.2.2.1
  have er : zA M Z A rc = M rc := zA_r M Z A (by omega)
  have fc := hf.fc hc
  have hB := hs.2.1
  have hW := hc.1
  have hV := hW.1
  have hR := hc.2.1
  have it : IVt (zA M Z A) Z := ht.cg (fun r r1 r2 => zA_r M Z A (by omega)) rfl rfl rfl
  have hT := it.1
  have hTR := it.2
  refine c_writeQ (by omega) hT a1 a2 b1 b2 (fun c => ?_) (fun c => ?_)
  · rw [zA_st]
    exact r_write (by omega) hT hTR a1 a2 b1 b2 (fun _ => ⟨rfl, _, _, _, rfl, iv.st _⟩) (fun q => absurd q c)
  · have ra : 0 ≤ a ∧ a ≤ 3 := by
      unfold cS at c
      by_cases q : 0 ≤ a ∧ a ≤ 3
      · exact q
      · rw [if_neg q] at c; omega
    rw [zA_set M Z A _ (by omega), zA_st]
    refine r_write (by omega) hT hTR a1 a2 b1 b2 (fun q => absurd c q) (fun _ Z2 tr zf => ⟨rfl, _, _, _, rfl, (iv.tr (by omega) ?_ tr zf).st _⟩)
    have tb := hT a.toNat (by omega)
    obtain ⟨t1, t2, t3⟩ := tb
    unfold TB
    rw [upd2_c _ _ (show 0 ≠ 1 by decide)]
    refine ⟨t1, t2, fun k hk => ?_⟩
    rw [upd2_at]
    split
    · exact i64_rng _
    · exact t3 k hk
theorem i_pour {l : Launch} {E : EnvT} {d : Nat} {M : Mem} {Z : Ch} {A : Nat → Int} {a p b q n : Int} (hd : 20 ≤ d) (iv : IV M Z A) (a1 : -2147483648 ≤ a) (a2 : a < 2147483648) (p1 : -2147483648 ≤ p) (p2 : p < 2147483648) (b1 : -2147483648 ≤ b) (b2 : b < 2147483648) (q1 : -2147483648 ≤ q) (q2 : q < 2147483648) (n1 : -2147483648 ≤ n) (n2 : n < 2147483648): CT l E d m_FN_pour [(.ref 0, 0), (.int (iN a), 0), (.int (iN p), 0), (.int (iN b), 0), (.int (iN q), 0), (.int (iN n), 0)] (zA M Z A) (fun v1 M1 => CT l E d m_Mod_pour [(.ref 24, 41), (.int (iN a), 0), (.int (iN p), 0), (.int (iN b), 0), (.int (iN q), 0), (.int (iN n), 0)] M1 (fun v2 M2 => PST v1 v2 M2)) := by
  obtain ⟨rc, rs, ry, rz, hf, hc, hs, ht, hl, hr, hk⟩ := id iv
  have f5 := hf.2.1
  have f6 := hf.2.2.1
  have er : zA M Z A rc = M rc := zA_r M Z A (by omega)
  have fc := hf.fc hc
  have hB := hs.2.1
  have hW := hc.1
  have hV := hW.1
  have hR := hc.2.1
  have it : IVt (zA M Z A) Z := ht.cg (fun r r1 r2 => zA_r M Z A (by omega)) rfl rfl rfl
  have hT := it.1
  have hTR := it.2
  refine c_pourQ (by omega) hT a1 a2 p1 p2 b1 b2 q1 q2 n1 n2 (fun c => ?_) (fun c => ?_)
  · rw [zA_st]
    exact r_pour (by omega) hT hTR a1 a2 p1 p2 b1 b2 q1 q2 n1 n2 (fun _ => ⟨rfl, _, _, _, rfl, iv.st _⟩) (fun w => absurd w c)
  · have ra : 0 ≤ a ∧ a ≤ 3 ∧ 0 ≤ b ∧ b ≤ 3 ∧ 0 ≤ p ∧ 0 ≤ q ∧ 0 ≤ n ∧ p + n ≤ zA M Z A (20 + a.toNat) 0 2 := by
      unfold pS at c
      by_cases w : 0 ≤ a ∧ a ≤ 3 ∧ 0 ≤ b ∧ b ≤ 3 ∧ 0 ≤ p ∧ 0 ≤ q ∧ 0 ≤ n
      · rw [if_pos w] at c
        split at c
        · omega
        · split at c
          · omega
          · split at c
            · rename_i w2
              exact ⟨w.1, w.2.1, w.2.2.1, w.2.2.2.1, w.2.2.2.2.1, w.2.2.2.2.2.1, w.2.2.2.2.2.2, w2.1⟩
            · omega
      · rw [if_neg w] at c; omega
    have ec : cpyM (zA M Z A) (20 + a.toNat) 1 (20 + b.toNat) 1 p.toNat q.toNat n.toNat = setR (zA M Z A) (20 + b.toNat) (setC (zA M Z A (20 + b.toNat)) 1 (va_cpy (zA M Z A (20 + a.toNat) 1) (zA M Z A (20 + b.toNat) 1) p.toNat q.toNat n.toNat)) := by
      funext r c
      unfold cpyM updC setR setC
      by_cases w : r = 20 + b.toNat
      · subst w
        by_cases w2 : c = 1
        · subst w2; simp
        · simp [w2]
      · simp [w]
    have tb := hT b.toNat (by omega)
    have ta := hT a.toNat (by omega)
    rw [ec, zA_set M Z A _ (by omega), zA_st]
    refine r_pour (by omega) hT hTR a1 a2 p1 p2 b1 b2 q1 q2 n1 n2 (fun w => absurd c w) (fun _ Z2 tr zf => ⟨rfl, _, _, _, rfl, (iv.tr (by omega) (TB_cells tb (fun k hk => ?_)) (by rw [← ec]; exact tr) zf).st _⟩)
    unfold va_cpy
    split
    · have := ta.2.1
      exact ta.2.2 _ (by omega)
    · exact tb.2.2 k hk
theorem i_copySung {l : Launch} {E : EnvT} {d : Nat} {M : Mem} {Z : Ch} {A : Nat → Int} {a t : Int} (hd : 20 ≤ d) (iv : IV M Z A) (a1 : -2147483648 ≤ a) (a2 : a < 2147483648) (t1 : -2147483648 ≤ t) (t2 : t < 2147483648): CT l E d m_FN_copySung [(.ref 0, 0), (.int (iN a), 0), (.int (iN t), 0)] (zA M Z A) (fun v1 M1 => CT l E d m_Mod_copySung [(.ref 24, 41), (.int (iN a), 0), (.int (iN t), 0)] M1 (fun v2 M2 => PST v1 v2 M2)) := by
  obtain ⟨rc, rs, ry, rz, hf, hc, hs, ht, hl, hr, hk⟩ := id iv
  have f5 := hf.2.1
  have f6 := hf.2.2.1
  have er : zA M Z A rc = M rc := zA_r M Z A (by omega)
  have fc := hf.fc hc
  have hB := hs.2.1
  have hW := hc.1
  have hV := hW.1
  have hR := hc.2.1
  have it : IVt (zA M Z A) Z := ht.cg (fun r r1 r2 => zA_r M Z A (by omega)) rfl rfl rfl
  have hT := it.1
  have hTR := it.2
  refine c_copySungQ (by omega) fc hT a1 a2 t1 t2 (fun c => ?_) (fun c => ?_)
  · rw [er] at c ⊢
    rw [zA_st]
    exact x_copySung (by omega) hB hV hR hT hTR a1 a2 t1 t2 (fun _ => ⟨rfl, _, _, _, rfl, iv.st _⟩) (fun w => absurd w c)
  · rw [er] at c ⊢
    have rt : 0 ≤ t ∧ t ≤ 3 := by
      unfold lS at c
      by_cases w : livesB (M rc) a = true ∧ 0 ≤ t ∧ t ≤ 3
      · exact w.2
      · rw [if_neg w] at c; omega
    have tb := hT t.toNat (by omega)
    rw [zA_set M Z A _ (by omega), zA_st]
    refine x_copySung (by omega) hB hV hR hT hTR a1 a2 t1 t2 (fun w => absurd c w) (fun _ Z2 tr zf => ⟨rfl, _, _, _, rfl, (iv.tr (by omega) ?_ tr zf).st _⟩)
    obtain ⟨u1, u2, u3⟩ := tb
    unfold TB
    have e0 : ∀ f n, cpC (zA M Z A (20 + t.toNat)) 1 f n 0 = zA M Z A (20 + t.toNat) 0 := fun f n => by
      funext k
      unfold cpC
      rw [if_neg (by omega)]
    rw [e0]
    refine ⟨u1, u2, fun k hk => ?_⟩
    unfold cpC
    split
    · exact i64_rng _
    · exact u3 k hk
theorem i_clear {l : Launch} {E : EnvT} {d : Nat} {M : Mem} {Z : Ch} {A : Nat → Int} (hd : 20 ≤ d) (iv : IV M Z A) : CT l E d m_FN_clear [(.ref 0, 0)] (zA M Z A) (fun v1 M1 => CT l E d m_Mod_clear [(.ref 24, 41)] M1 (fun v2 M2 => PST v1 v2 M2)) := by
  obtain ⟨rc, rs, ry, rz, hf, hc, hs, ht, hl, hr, hk⟩ := id iv
  have f5 := hf.2.1
  have f6 := hf.2.2.1
  have er : zA M Z A rc = M rc := zA_r M Z A (by omega)
  have fc := hf.fc hc
  have hB := hs.2.1
  have hW := hc.1
  have hV := hW.1
  have hR := hc.2.1
  obtain ⟨n, hn⟩ : ∃ n : Nat, M rc 0 8 = n := ⟨(M rc 0 8).toNat, by have := hV.n; omega⟩
  have hn2 : zA M Z A rc 0 8 = n := by rw [er]; exact hn
  have n8 := hV.n
  refine c_clearX (by omega) fc (by rw [er]; exact hW) hn2 (fun T T2 lk c => ?_) (fun T T2 len lk c c2 => ?_)
  · rw [er] at lk
    rw [zA_set M Z A _ (by decide), zA_st]
    exact x_clear (by omega) hB hW hR hn lk (fun _ Z2 zs => ⟨rfl, _, _, _, rfl, (iv.zs zs _).st _⟩) (fun len c3 c4 => by omega)
  · rw [er] at lk ⊢
    rw [zA_set M Z A _ (by decide), zA_set _ Z A _ (by omega), zA_st]
    refine x_clear (by omega) hB hW hR hn lk (fun c3 => by omega) (fun len2 c3 c4 Z2 A2 zs rr fa => ?_)
    have el : len2 = len := (by omega)
    subst el
    have pv := frL_ok hV (by omega) lk (n - 2) 3 (T 4) len2 (by omega) c c2
    have h0 : M rc 0 8 ≠ 0 := fun q => by
      have := frL_0 (X := T 2) (P := T 4) q hn
      omega
    have kp : KX (M rc) (settleC (ringOff (frL (T 2) n 3 (n - 2) (T 4)).2 len2 (ringMin (M rc) (frL (T 2) n 3 (n - 2) (T 4)).2 len2 len2) len2 0 (M rc))) := KP.x ⟨WC_clear (WX_n h0 hW) hn pv, by rw [settleC_c (by decide), ringO_c _ _ _ (by decide) (by decide)], by rw [settleC_c (by decide), ringO_c _ _ _ (by decide) (by decide)]⟩
    have i2 := iv.zs zs T2
    have e9 : setR M 12 T2 0 0 9 = rc := by rw [setR_ne _ _ (show (0 : Nat) ≠ 12 by decide)]; exact hf.1.1
    exact ⟨rfl, _, _, _, rfl, (i2.chx e9 (by rw [setR_ne _ _ (show rc ≠ 12 by omega)]; exact kp) rr fa).st _⟩
theorem i_bass {l : Launch} {E : EnvT} {d : Nat} {M : Mem} {Z : Ch} {A : Nat → Int} (hd : 20 ≤ d) (iv : IV M Z A) : CT l E d m_FN_bass [(.ref 0, 0)] (zA M Z A) (fun v1 M1 => CT l E d m_Mod_bass [(.ref 24, 41)] M1 (fun v2 M2 => PST v1 v2 M2)) := by
  obtain ⟨rc, rs, ry, rz, hf, hc, hs, ht, hl, hr, hk⟩ := id iv
  have f5 := hf.2.1
  have f6 := hf.2.2.1
  have er : zA M Z A rc = M rc := zA_r M Z A (by omega)
  have fc := hf.fc hc
  have hB := hs.2.1
  have hW := hc.1
  have hV := hW.1
  have hR := hc.2.1
  refine c_bassQ (by omega) fc (fun c => ?_) (fun c => ?_)
  · rw [er] at c
    rw [zA_st]
    exact x_bass (by omega) hB hW hR (fun _ => ⟨rfl, _, _, _, rfl, iv.st _⟩) (fun w => absurd c w)
  · rw [er] at c ⊢
    rw [zA_tf, zA_st]
    exact x_bass (by omega) hB hW hR (fun w => absurd w c) (fun _ => ⟨rfl, _, _, _, rfl, (iv.tf _ _).st _⟩)
theorem i_feed {l : Launch} {E : EnvT} {d : Nat} {M : Mem} {Z : Ch} {A : Nat → Int} {x1 x2 x3 x4 x5 : Int32} (hd : 20 ≤ d) (iv : IV M Z A) : CT l E d m_FN_feed [(.ref 0, 0), (.int x1, 0), (.int x2, 0), (.int x3, 0), (.int x4, 0), (.int x5, 0)] (zA M Z A) (fun v1 M1 => CT l E d m_Mod_feed [(.ref 24, 41), (.int x1, 0), (.int x2, 0), (.int x3, 0), (.int x4, 0), (.int x5, 0)] M1 (fun v2 M2 => PST v1 v2 M2)) := by
  obtain ⟨rc, rs, ry, rz, hf, hc, hs, ht, hl, hr, hk⟩ := id iv
  have f5 := hf.2.1
  have f6 := hf.2.2.1
  have er : zA M Z A rc = M rc := zA_r M Z A (by omega)
  have fc := hf.fc hc
  have hB := hs.2.1
  have hW := hc.1
  have hV := hW.1
  have hR := hc.2.1
  have e0 : zA M Z A 0 = M 0 := zA_r M Z A (by decide)
  have tp := hs.2.2.1
  refine c_feedQ (by omega) (by rw [e0]; exact tp.1) (by rw [e0]; exact tp.2) (fun c => ?_) (fun c => ?_)
  · rw [e0] at c
    exact r_feed (F := M 0) (by omega) hs.2.2.2.2 tp.1 tp.2 (fun _ => ⟨rfl, _, _, _, rfl, iv⟩) (fun c2 => absurd c2 (by omega))
  · rw [e0] at c ⊢
    rw [zA_set M Z A _ (by decide)]
    refine r_feed (F := M 0) (by omega) hs.2.2.2.2 tp.1 tp.2 (fun c2 => absurd c2 (by omega)) (fun _ Z2 xr zx => ⟨rfl, _, _, _, rfl, ?_⟩)
    have k0 : ∀ k, k ≠ 16 → spF (spF (spF (spF (spF (M 0) x1) x2) x3) x4) x5 0 k = M 0 0 k := fun k hk => by rw [spF_0 _ _ hk, spF_0 _ _ hk, spF_0 _ _ hk, spF_0 _ _ hk, spF_0 _ _ hk]
    have k16 : spF (spF (spF (spF (spF (M 0) x1) x2) x3) x4) x5 0 16 = M 0 0 16 + 20 := by rw [spF_16, spF_16, spF_16, spF_16, spF_16]; omega
    have kb : XBn (spF (spF (spF (spF (spF (M 0) x1) x2) x3) x4) x5 2) := fun j hj => by
      have a0 := hs.2.2.2.1 j hj
      have a1 := spF_2 (M 0) x1 j a0.1 a0.2
      have a2 := spF_2 _ x2 j a1.1 a1.2
      have a3 := spF_2 _ x3 j a2.1 a2.2
      have a4 := spF_2 _ x4 j a3.1 a3.2
      exact spF_2 _ x5 j a4.1 a4.2
    generalize spF (spF (spF (spF (spF (M 0) x1) x2) x3) x4) x5 = F' at xr k0 k16 kb ⊢
    have e : ∀ r, r ≠ 0 → setR M 0 F' r = M r := fun r hr => setR_ne _ _ hr
    have z0 : ∀ k, k ≠ 10 → Z2 0 k = Z 0 k := fun k hk => zx 0 k (by decide) (by omega)
    have zc : ∀ c, c ≠ 0 → c ≠ 6 → Z2 c = Z c := fun c h1 h2 => funext (fun k => zx c k h2 (by omega))
    refine ⟨rc, rs, ry, rz, hf.cg (fun j j1 j2 => by rw [setR_same]; exact k0 j (by omega)) (e _ (by omega)) (e _ (by omega)), hc.cg (e _ (by omega)) (e _ (by omega)) (fun k _ => by rw [zc 2 (by omega) (by omega)]) (fun _ _ => rfl), ⟨?_, by rw [z0 _ (by omega)]; exact hB, by rw [setR_same, k16]; omega, by rw [setR_same]; exact kb, by rw [setR_same]; exact xr⟩, ht.cg (fun r r1 r2 => e _ (by omega)) (zc _ (by omega) (by omega)) (zc _ (by omega) (by omega)) (zc _ (by omega) (by omega)), hl.cg (e _ (by omega)) (e _ (by omega)) (z0 _ (by omega)) (zc _ (by omega) (by omega)), hr.cg (e _ (by omega)) (e _ (by omega)) (e _ (by omega)), hk.cg (fun r r1 r2 => e _ (by omega)) (z0 _ (by omega)) (fun k _ _ => by rw [zc 2 (by omega) (by omega)]) (fun _ _ _ => rfl)⟩
    obtain ⟨a1, a2, a3, a4, a5⟩ := hs.1
    rw [setR_same, z0 _ (by omega), z0 _ (by omega), z0 _ (by omega), z0 _ (by omega), z0 _ (by omega), k0 _ (by omega), k0 _ (by omega), k0 _ (by omega), k0 _ (by omega), k0 _ (by omega)]
    exact ⟨a1, a2, a3, a4, a5⟩
