theorem zA_r (M : Mem) (Z : Ch) (A : Nat → Int) {r : Nat} (h : r ≠ 24) : zA M Z A r = M r := setR_ne _ _ h
theorem setR_cm (M : Mem) {r q : Nat} (C D : Ch) (h : r ≠ q) : setR (setR M r C) q D = setR (setR M q D) r C := by
  funext x
  unfold setR
  by_cases e : x = r
  · subst e; simp [h]
  · simp [e]
theorem zA_set (M : Mem) (Z : Ch) (A : Nat → Int) {r : Nat} (C : Ch) (h : r ≠ 24) : setR (zA M Z A) r C = zA (setR M r C) Z A := setR_cm _ _ _ (Ne.symm h)
theorem zA_st (M : Mem) (Z : Ch) (A : Nat → Int) (w : Int) : stM (zA M Z A) w = zA (stM M w) Z A := by
  unfold stM
  rw [zA_r M Z A (by decide), zA_set M Z A _ (by decide)]
theorem stM_r (M : Mem) (w : Int) {r : Nat} (h : r ≠ 0) : stM M w r = M r := setR_ne _ _ h
theorem stM_0 (M : Mem) (w : Int) {j : Nat} (h : j ≠ 13) : stM M w 0 0 j = M 0 0 j := by
  unfold stM
  rw [setR_same, upd2_k _ _ h]
theorem stM_13 (M : Mem) (w : Int) : stM M w 0 0 13 = w := by
  unfold stM
  rw [setR_same, upd2_same]
theorem stM_c (M : Mem) (w : Int) {c : Nat} (h : c ≠ 0) : stM M w 0 c = M 0 c := by
  unfold stM
  rw [setR_same, upd2_c _ _ h]
theorem sZ_0 (Z : Ch) (w : Int) {j : Nat} (h : j ≠ 2) : sZ Z w 0 j = Z 0 j := upd2_k _ _ h
theorem sZ_2 (Z : Ch) (w : Int) : sZ Z w 0 2 = w := upd2_same _ _ _ _
theorem sZ_c (Z : Ch) (w : Int) {c : Nat} (h : c ≠ 0) : sZ Z w c = Z c := upd2_c _ _ h
/-- years that stand, told or not -/
def YG (Y : Ch) (n : Int) : Prop := YB Y ∧ YV Y ∧ (Y 0 8 = 1 → YP Y n) ∧ (Y 0 8 = 0 → Y 0 6 = 0)
theorem YG.yt {Y : Ch} {n : Int} (h : YG Y n) : ∀ i : Nat, (i : Int) < Y 0 6 → YT Y i := by
  intro i hi
  rcases h.1.2.2 with q | q
  · have := h.2.2.2 q; omega
  · exact ((h.2.2.1 q).2 i hi).1
def IVf (M : Mem) (rc rs ry rz : Nat) : Prop := (M 0 0 9 = rc ∧ M 0 0 10 = rs ∧ M 0 0 11 = ry ∧ M 0 0 12 = rz) ∧ ((rc = 16 ∧ rs = 17) ∨ (rc = 17 ∧ rs = 16)) ∧ ((ry = 18 ∧ rz = 19) ∨ (ry = 19 ∧ rz = 18)) ∧ VB (M rs) ∧ YV (M rz)
def IVc (M : Mem) (Z : Ch) (A : Nat → Int) (rc ry : Nat) : Prop := WX (M rc) ∧ RX (M rc) A 0 ∧ NR (M rc) Z 0 ∧ YG (M ry) (M rc 0 8) ∧ RY (M ry) A 0
def IVs (M : Mem) (Z : Ch) : Prop := (Z 0 2 = M 0 0 13 ∧ Z 0 3 = M 0 0 14 ∧ Z 0 4 = M 0 0 15 ∧ Z 0 16 = M 0 0 17 ∧ Z 0 17 = M 0 0 18) ∧ Z 0 21 = 0 ∧ (0 ≤ M 0 0 16 ∧ M 0 0 16 ≤ 900) ∧ XBn (M 0 2) ∧ XR (M 0) Z
def IVt (M : Mem) (Z : Ch) : Prop := FT M ∧ TR M Z
def IVl (M : Mem) (Z : Ch) : Prop := LT (M 13) Z ∧ TL (M 13) ∧ TL (M 14)
def IVr (M : Mem) : Prop := TG (M 2) ∧ TG (M 4) ∧ ∀ k, k < 3 → 0 ≤ M 3 1 k ∧ M 3 1 k < 60
/-- one mark: choir, years, and the reference's from B on, names from b on -/
def IVm (C Y Z : Ch) (A : Nat → Int) (B b : Nat) : Prop := WX C ∧ RX C A B ∧ NR C Z b ∧ YG Y (C 0 8) ∧ RY Y A B
def IVk (M : Mem) (Z : Ch) (A : Nat → Int) : Prop := ∃ k : Nat, k ≤ 3 ∧ M 5 0 2 = k ∧ Z 0 33 = k ∧ ∀ j, j < k → IVm (M (6 + 2 * j)) (M (7 + 2 * j)) Z A (602 * (j + 1)) (8 * (j + 1))
/-- class M and reference Z, A stand alike -/
def IV (M : Mem) (Z : Ch) (A : Nat → Int) : Prop := ∃ rc rs ry rz : Nat, IVf M rc rs ry rz ∧ IVc M Z A rc ry ∧ IVs M Z ∧ IVt M Z ∧ IVl M Z ∧ IVr M ∧ IVk M Z A
/-- both have answered alike, and stand alike again -/
def PST (v1 v2 : AV) (M2 : Mem) : Prop := v1 = v2 ∧ ∃ (M : Mem) (Z : Ch) (A : Nat → Int), M2 = zA M Z A ∧ IV M Z A
theorem IVf.fc {M : Mem} {Z : Ch} {A : Nat → Int} {rc rs ry rz : Nat} (h : IVf M rc rs ry rz) (hc : IVc M Z A rc ry) : FC (zA M Z A) rc := by
  obtain ⟨⟨f1, f2, f3, f4⟩, f5, f6, f7, f8⟩ := h
  refine ⟨?_, by omega, ?_⟩
  · rw [zA_r M Z A (by decide)]; exact f1
  · rw [zA_r M Z A (by omega)]; exact hc.1.1
theorem IVf.fy {M : Mem} {Z : Ch} {A : Nat → Int} {rc rs ry rz : Nat} (h : IVf M rc rs ry rz) (hc : IVc M Z A rc ry) : FY (zA M Z A) ry := by
  obtain ⟨⟨f1, f2, f3, f4⟩, f5, f6, f7, f8⟩ := h
  refine ⟨?_, by omega, ?_⟩
  · rw [zA_r M Z A (by decide)]; exact f3
  · rw [zA_r M Z A (by omega)]; exact hc.2.2.2.1.1
theorem IVf.cg {M M' : Mem} {rc rs ry rz : Nat} (h : IVf M rc rs ry rz) (e : ∀ j, 9 ≤ j → j ≤ 12 → M' 0 0 j = M 0 0 j) (es : M' rs = M rs) (ez : M' rz = M rz) : IVf M' rc rs ry rz := by
  obtain ⟨⟨f1, f2, f3, f4⟩, f5, f6, f7, f8⟩ := h
  exact ⟨⟨by rw [e 9 (by omega) (by omega)]; exact f1, by rw [e 10 (by omega) (by omega)]; exact f2, by rw [e 11 (by omega) (by omega)]; exact f3, by rw [e 12 (by omega) (by omega)]; exact f4⟩, f5, f6, by rw [es]; exact f7, by rw [ez]; exact f8⟩
theorem RYr.cg {Y : Ch} {A A' : Nat → Int} {B i : Nat} (h : RYr Y A B i) (hi : i < 60) (e : ∀ j, B + 238 ≤ j → j < B + 598 → A' j = A j) : RYr Y A' B i := by
  unfold RYr at h ⊢
  rw [e _ (by omega) (by omega), e _ (by omega) (by omega), e _ (by omega) (by omega), e _ (by omega) (by omega), e _ (by omega) (by omega), e _ (by omega) (by omega)]
  exact h
theorem RY.cg {Y : Ch} {A A' : Nat → Int} {B : Nat} (h : RY Y A B) (hB : YB Y) (e4 : A' (B + 4) = A (B + 4)) (e : ∀ j, B + 238 ≤ j → j < B + 598 → A' j = A j) : RY Y A' B := by
  have b := hB.1
  exact ⟨fun q => by rw [e4]; exact h.1 q, fun q => by rw [e4]; exact h.2.1 q, fun i hi => (h.2.2 i hi).cg (by omega) e⟩
theorem NR.cg {C Z Z' : Ch} {b : Nat} (h : NR C Z b) (hV : VB C) (e : ∀ k, b ≤ k → k < b + 8 → Z' 2 k = Z 2 k) : NR C Z' b := fun s hs => by
  have := hV.n
  rw [e (b + s) (by omega) (by omega)]
  exact h s hs
theorem IVm.cg {C Y Z Z' : Ch} {A A' : Nat → Int} {B b : Nat} (h : IVm C Y Z A B b) (ea : ∀ j, B ≤ j → j < B + 602 → A' j = A j) (ez : ∀ k, b ≤ k → k < b + 8 → Z' 2 k = Z 2 k) : IVm C Y Z' A' B b := by
  obtain ⟨h1, h2, h3, h4, h5⟩ := h
  exact ⟨h1, h2.fr h1.1 (fun j j1 j2 => ea j j1 (by omega)), h3.cg h1.1 ez, h4, h5.cg h4.1 (ea _ (by omega) (by omega)) (fun j j1 j2 => ea j (by omega) (by omega))⟩
theorem IVk.cg {M M' : Mem} {Z Z' : Ch} {A A' : Nat → Int} (h : IVk M Z A) (e : ∀ r, 5 ≤ r → r ≤ 11 → M' r = M r) (z33 : Z' 0 33 = Z 0 33) (z2 : ∀ k, 8 ≤ k → k < 32 → Z' 2 k = Z 2 k) (ea : ∀ j, 602 ≤ j → j < 2408 → A' j = A j) : IVk M' Z' A' := by
  obtain ⟨k, k3, k1, k2, km⟩ := h
  refine ⟨k, k3, by rw [e 5 (by omega) (by omega)]; exact k1, by rw [z33]; exact k2, fun j hj => ?_⟩
  rw [e (6 + 2 * j) (by omega) (by omega), e (7 + 2 * j) (by omega) (by omega)]
  exact (km j hj).cg (fun i i1 i2 => ea i (by omega) (by omega)) (fun i i1 i2 => z2 i (by omega) (by omega))
theorem IVl.cg {M M' : Mem} {Z Z' : Ch} (h : IVl M Z) (e13 : M' 13 = M 13) (e14 : M' 14 = M 14) (z0 : Z' 0 32 = Z 0 32) (z : Z' 13 = Z 13) : IVl M' Z' := by
  obtain ⟨⟨a, b, c⟩, d, e⟩ := h
  unfold IVl LT
  rw [e13, e14, z0, z]
  exact ⟨⟨a, b, c⟩, d, e⟩
theorem IVr.cg {M M' : Mem} (h : IVr M) (e2 : M' 2 = M 2) (e3 : M' 3 = M 3) (e4 : M' 4 = M 4) : IVr M' := by
  unfold IVr at h ⊢
  rw [e2, e3, e4]
  exact h
theorem IVt.cg {M M' : Mem} {Z Z' : Ch} (h : IVt M Z) (e : ∀ r, 20 ≤ r → r < 24 → M' r = M r) (z3 : Z' 3 = Z 3) (z4 : Z' 4 = Z 4) (z5 : Z' 5 = Z 5) : IVt M' Z' := by
  obtain ⟨a, b⟩ := h
  refine ⟨fun j hj => by rw [e _ (by omega) (by omega)]; exact a j hj, fun j hj => ?_⟩
  rw [e _ (by omega) (by omega), z3, z4, z5]
  exact b j hj
theorem IVc.cg {M M' : Mem} {Z Z' : Ch} {A A' : Nat → Int} {rc ry : Nat} (h : IVc M Z A rc ry) (ec : M' rc = M rc) (ey : M' ry = M ry) (z2 : ∀ k, k < 8 → Z' 2 k = Z 2 k) (ea : ∀ j, j < 602 → A' j = A j) : IVc M' Z' A' rc ry := by
  obtain ⟨h1, h2, h3, h4, h5⟩ := h
  unfold IVc
  rw [ec, ey]
  exact ⟨h1, h2.fr h1.1 (fun j _ j2 => ea j (by omega)), h3.cg h1.1 (fun k _ k2 => z2 k (by omega)), h4, h5.cg h4.1 (ea _ (by omega)) (fun j _ j2 => ea j (by omega))⟩
theorem IVs.st {M : Mem} {Z : Ch} (h : IVs M Z) (w : Int) : IVs (stM M w) (sZ Z w) := by
  obtain ⟨⟨a1, a2, a3, a4, a5⟩, b, c, d, e1, e2⟩ := h
  refine ⟨⟨by rw [sZ_2, stM_13], by rw [sZ_0 _ _ (by omega), stM_0 _ _ (by omega)]; exact a2, by rw [sZ_0 _ _ (by omega), stM_0 _ _ (by omega)]; exact a3, by rw [sZ_0 _ _ (by omega), stM_0 _ _ (by omega)]; exact a4, by rw [sZ_0 _ _ (by omega), stM_0 _ _ (by omega)]; exact a5⟩, by rw [sZ_0 _ _ (by omega)]; exact b, by rw [stM_0 _ _ (by omega)]; exact c, by rw [stM_c _ _ (by decide)]; exact d, by rw [sZ_0 _ _ (by omega), stM_0 _ _ (by omega)]; exact e1, fun j hj => by rw [sZ_c _ _ (by decide), stM_c _ _ (by decide)]; exact e2 j hj⟩
theorem IV.st {M : Mem} {Z : Ch} {A : Nat → Int} (h : IV M Z A) (w : Int) : IV (stM M w) (sZ Z w) A := by
  obtain ⟨rc, rs, ry, rz, hf, hc, hs, ht, hl, hr, hk⟩ := h
  have f5 := hf.2.1
  have f6 := hf.2.2.1
  exact ⟨rc, rs, ry, rz, hf.cg (fun j j1 j2 => stM_0 _ _ (by omega)) (stM_r _ _ (by omega)) (stM_r _ _ (by omega)), hc.cg (stM_r _ _ (by omega)) (stM_r _ _ (by omega)) (fun k _ => by rw [sZ_c _ _ (by decide)]) (fun _ _ => rfl), hs.st w, ht.cg (fun r r1 r2 => stM_r _ _ (by omega)) (sZ_c _ _ (by decide)) (sZ_c _ _ (by decide)) (sZ_c _ _ (by decide)), hl.cg (stM_r _ _ (by omega)) (stM_r _ _ (by omega)) (sZ_0 _ _ (by omega)) (sZ_c _ _ (by decide)), hr.cg (stM_r _ _ (by omega)) (stM_r _ _ (by omega)) (stM_r _ _ (by omega)), hk.cg (fun r r1 r2 => stM_r _ _ (by omega)) (sZ_0 _ _ (by omega)) (fun k _ _ => by rw [sZ_c _ _ (by decide)]) (fun _ _ _ => rfl)⟩
/-- scratch cells of the reference (parts by, row) and of the class's ties change -/
theorem IV.zs {M : Mem} {Z Z' : Ch} {A : Nat → Int} (h : IV M Z A) (z : ZS Z Z') (T' : Ch) : IV (setR M 12 T') Z' A := by
  obtain ⟨rc, rs, ry, rz, hf, hc, hs, ht, hl, hr, hk⟩ := h
  have f5 := hf.2.1
  have f6 := hf.2.2.1
  have e : ∀ r, r ≠ 12 → setR M 12 T' r = M r := fun r hr => setR_ne _ _ hr
  have z0 := z 0 (by decide) (by decide)
  refine ⟨rc, rs, ry, rz, hf.cg (fun j j1 j2 => by rw [e 0 (by omega)]) (e _ (by omega)) (e _ (by omega)), hc.cg (e _ (by omega)) (e _ (by omega)) (fun k _ => by rw [z 2 (by decide) (by decide)]) (fun _ _ => rfl), ?_, ht.cg (fun r r1 r2 => e _ (by omega)) (z _ (by decide) (by decide)) (z _ (by decide) (by decide)) (z _ (by decide) (by decide)), hl.cg (e _ (by omega)) (e _ (by omega)) (by rw [z0]) (z _ (by decide) (by decide)), hr.cg (e _ (by omega)) (e _ (by omega)) (e _ (by omega)), hk.cg (fun r r1 r2 => e _ (by omega)) (by rw [z0]) (fun k _ _ => by rw [z 2 (by decide) (by decide)]) (fun _ _ _ => rfl)⟩
  unfold IVs XR at hs ⊢
  rw [z0, z 6 (by decide) (by decide), e 0 (by omega)]
  exact hs
/-- the choir changes, its singers and their names do not -/
theorem IV.ch {M : Mem} {Z : Ch} {A A' : Nat → Int} {rc rs ry rz : Nat} {C' : Ch} (hf : IVf M rc rs ry rz) (hc : IVc M Z A rc ry) (hs : IVs M Z) (ht : IVt M Z) (hl : IVl M Z) (hr : IVr M) (hk : IVk M Z A) (hW : WX C') (h8 : C' 0 8 = M rc 0 8) (h1 : C' 1 = M rc 1) (hR : RX C' A' 0) (fA : FrA 0 A A') : IV (setR M rc C') Z A' := by
  have f5 := hf.2.1
  have f6 := hf.2.2.1
  have e : ∀ r, r ≠ rc → setR M rc C' r = M r := fun r hr => setR_ne _ _ hr
  refine ⟨rc, rs, ry, rz, hf.cg (fun j j1 j2 => by rw [e 0 (by omega)]) (e _ (by omega)) (e _ (by omega)), ?_, ?_, ht.cg (fun r r1 r2 => e _ (by omega)) rfl rfl rfl, hl.cg (e _ (by omega)) (e _ (by omega)) rfl rfl, hr.cg (e _ (by omega)) (e _ (by omega)) (e _ (by omega)), hk.cg (fun r r1 r2 => e _ (by omega)) rfl (fun _ _ _ => rfl) (fun j j1 j2 => fA j (by omega))⟩
  · obtain ⟨w1, w2, w3, w4, w5⟩ := hc
    unfold IVc
    rw [setR_same, e ry (by omega), h8]
    refine ⟨hW, hR, fun s hs2 => ?_, w4, w5.fr w4.1 fA⟩
    rw [h8] at hs2
    rw [h1]
    exact w3 s hs2
  · unfold IVs XR at hs ⊢
    rw [e 0 (by omega)]
    exact hs
