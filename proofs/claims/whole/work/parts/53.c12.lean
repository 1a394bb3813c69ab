def relK (dd k : Nat) : Bool := if (dsc dd).2.1 < 100 then (match (dsc dd).2.2[k]? with | some q => q.1 != 3 && q.1 != 4 | none => false) else decide (k < ((dsc dd).2.2.headD (0, 0)).1)
def Agree (M M' : Mem) : Prop := ∀ q ∈ CL, ∀ k, relK q.2 k = true → M q.1 (dsc q.2).1 k = M' q.1 (dsc q.2).1 k
theorem flds_agree (E : EnvT) (M M' : Mem) (r c : Nat) : ∀ (l : List (Nat × Nat)) (k0 : Nat), (∀ j q, l[j]? = some q → q.1 ≠ 3 → q.1 ≠ 4 → M r c (k0 + j) = M' r c (k0 + j)) → flds E M r c k0 l = flds E M' r c k0 l
  | [], _, _ => rfl
  | q :: t, k0, h => by
    have h0 : q.1 ≠ 3 → q.1 ≠ 4 → M r c k0 = M' r c k0 := h 0 q rfl
    have h1 := flds_agree E M M' r c t (k0 + 1) (fun j q' hj a b => by
      have := h (j + 1) q' hj a b
      rw [show k0 + 1 + j = k0 + (j + 1) by omega]
      exact this)
    show fval E M r c k0 q :: flds E M r c (k0 + 1) t = fval E M' r c k0 q :: flds E M' r c (k0 + 1) t
    rw [h1]
    congr 1
    unfold fval
    split
    · rename_i e; rw [h0 (by omega) (by omega)]
    · rename_i e; rw [h0 (by omega) (by omega)]
    · rename_i e; rw [h0 (by omega) (by omega)]
    · rfl
    · rfl
    · rename_i e1 e2 e3 e4 e5; rw [h0 e4 e5]
theorem arrV_agree (c : ClassId) {n : Nat} {f g : Nat → Value} (h : ∀ k, k < n → f k = g k) : arrV c n f = arrV c n g := by
  unfold arrV
  congr 1
  congr 1
  funext j
  exact h j.val j.isLt
theorem cell_agree {E : EnvT} {M M' : Mem} {D : va_G} {cl : List vw_C} {H : Heap} {x r dd : Nat} (a : ∀ k, relK dd k = true → M r (dsc dd).1 k = M' r (dsc dd).1 k) (h : va_at D cl (x, cellOf E M r dd) H) : va_at D cl (x, cellOf E M' r dd) H := by
  have e : va_at D cl (x, cellOf E M r dd) H = va_at D cl (x, cellOf E M' r dd) H := by
    unfold cellOf
    by_cases h1 : (dsc dd).2.1 < 100
    · rw [if_pos h1, if_pos h1, flds_agree E M M' r (dsc dd).1 (dsc dd).2.2 0 (fun j q hj a1 a2 => by
        rw [Nat.zero_add]
        refine a j ?_
        unfold relK
        rw [if_pos h1, hj]
        simp [a1, a2])]
    · have b : ∀ k, k < ((dsc dd).2.2.headD (0, 0)).1 → M r (dsc dd).1 k = M' r (dsc dd).1 k := fun k hk => a k (by unfold relK; rw [if_neg h1]; exact decide_eq_true hk)
      rw [if_neg h1, if_neg h1]
      by_cases h2 : (dsc dd).2.1 = 100
      · rw [if_pos h2, if_pos h2]
        show (H[x]? = some (vp_cell _ (_, .inl _))) = (H[x]? = some (vp_cell _ (_, .inl _)))
        rw [vp_cell_i, vp_cell_i, arrV_agree _ (fun k hk => by rw [b k hk])]
      · rw [if_neg h2, if_neg h2]
        by_cases h3 : (dsc dd).2.1 = 101
        · rw [if_pos h3, if_pos h3]
          show (H[x]? = some (vp_cell _ (_, .inr (.inl _)))) = (H[x]? = some (vp_cell _ (_, .inr (.inl _))))
          rw [vp_cell_l, vp_cell_l, arrV_agree _ (fun k hk => by rw [b k hk])]
        · rw [if_neg h3, if_neg h3]
          by_cases h4 : (dsc dd).2.1 = 102
          · rw [if_pos h4, if_pos h4]
            show (H[x]? = some (vp_cell _ (_, .inl _))) = (H[x]? = some (vp_cell _ (_, .inl _)))
            rw [vp_cell_i, vp_cell_i, arrV_agree _ (fun k hk => by rw [b k hk])]
          · rw [if_neg h4, if_neg h4]
  rw [← e]
  exact h
theorem HX.agree {E : EnvT} {M M' : Mem} {H : Heap} (h : HX E M H) (a : Agree M M') : HX E M' H := by
  intro k q hq
  rw [WL_at] at hq
  cases hc : CL[k]? with
  | none => rw [hc] at hq; cases hq
  | some p =>
    rw [hc] at hq
    cases hq
    exact cell_agree (fun j hj => a p (List.mem_of_getElem? hc) j hj) (h k (al E p.1 p.2, cellOf E M p.1 p.2) (by rw [WL_at, hc]; rfl))
theorem G.agree {l : Launch} {E : EnvT} {d : Nat} {mi : MI} {pc : Nat} {ls : LsT} {st : List AV} {M : Mem} {K K' : AV → Mem → Prop} (h : ∀ v M', K' v M' → ∃ M'', Agree M' M'' ∧ K v M'') (g : G l E d mi pc ls st M K') : G l E d mi pc ls st M K := by
  intro p e s m args below meth c H locs la hC hH hS hT1 hT2 hl T hT X
  obtain ⟨t, ht, o, q1, q2, ⟨⟨r, M', k1, k2, k3⟩, k4⟩, q4⟩ := g p e s m args below meth c H locs la hC hH hS hT1 hT2 hl T hT X
  obtain ⟨M'', a, k⟩ := h r M' k1
  exact ⟨t, ht, o, q1, q2, ⟨⟨r, M'', k, k2, k3.agree a⟩, k4⟩, q4⟩
def cpC (C : Ch) (c : Nat) (f : Nat → Int) (n : Nat) : Ch := fun c' k => if c' = c ∧ k < n then f k else C c' k
theorem cpyM_setR (M : Mem) (r2 r c n : Nat) : cpyM M r2 c r c 0 0 n = setR M r (cpC (M r) c (M r2 c) n) := by
  funext r' c' k
  unfold cpyM updC setR cpC va_cpy
  by_cases h : r' = r
  · subst h
    by_cases h2 : c' = c
    · subst h2
      by_cases h3 : k < n
      · simp [h3]
      · simp [h3]
    · simp [h2]
  · simp [h]
theorem relK_11 {k : Nat} (h : relK 11 k = true) : 8 ≤ k ∧ k ≤ 15 := by
  have h1 : k < 16 := by
    by_cases c : k < 16
    · exact c
    · have e : (dsc 11).2.2[k]? = none := List.getElem?_eq_none (show (dsc 11).2.2.length ≤ k from Nat.le_trans (show 16 ≤ k by omega) (Nat.le_refl k) |> fun q => Nat.le_trans (by decide) q)
      unfold relK at h
      rw [if_pos (show (dsc 11).2.1 < 100 by decide), e] at h
      cases h
  have : ∀ k, k < 16 → relK 11 k = true → 8 ≤ k := by decide +kernel
  exact ⟨this k h1 h, by omega⟩
theorem relK_19 {k : Nat} (h : relK 19 k = true) : k = 3 := by
  have h1 : k < 4 := by
    by_cases c : k < 4
    · exact c
    · have e : (dsc 19).2.2[k]? = none := List.getElem?_eq_none (show (dsc 19).2.2.length ≤ k from Nat.le_trans (by decide) (show 4 ≤ k by omega))
      unfold relK at h
      rw [if_pos (show (dsc 19).2.1 < 100 by decide), e] at h
      cases h
  have : ∀ k, k < 4 → relK 19 k = true → k = 3 := by decide +kernel
  exact this k h1 h
theorem relK_23 {k : Nat} (h : relK 23 k = true) : 6 ≤ k ∧ k ≤ 8 := by
  have h1 : k < 9 := by
    by_cases c : k < 9
    · exact c
    · have e : (dsc 23).2.2[k]? = none := List.getElem?_eq_none (show (dsc 23).2.2.length ≤ k from Nat.le_trans (by decide) (show 9 ≤ k by omega))
      unfold relK at h
      rw [if_pos (show (dsc 23).2.1 < 100 by decide), e] at h
      cases h
  have : ∀ k, k < 9 → relK 23 k = true → 6 ≤ k := by decide +kernel
  exact ⟨this k h1 h, by omega⟩
theorem relK_ar {dd n k : Nat} (h1 : ¬ (dsc dd).2.1 < 100) (h2 : ((dsc dd).2.2.headD (0, 0)).1 = n) (h : relK dd k = true) : k < n := by
  unfold relK at h
  rw [if_neg h1, h2] at h
  exact of_decide_eq_true h
def AgrC (C C' : Ch) : Prop := (∀ k, 8 ≤ k → k ≤ 15 → C 0 k = C' 0 k) ∧ (∀ c, 1 ≤ c → c ≤ 4 → ∀ k, k < 8 → C c k = C' c k) ∧ (∀ c, 5 ≤ c → c ≤ 7 → ∀ k, k < 48 → C c k = C' c k) ∧ C 8 3 = C' 8 3 ∧ ∀ c, 9 ≤ c → c ≤ 11 → ∀ k, k < 8 → C c k = C' c k
def chRs : List Nat := [6, 8, 10, 15, 16, 17]
def yrRs : List Nat := [7, 9, 11, 18, 19]
theorem chReg : ∀ q ∈ CL, q.1 ∈ chRs → q.2 ∈ [11, 12, 13, 14, 15, 16, 17, 18, 19, 20, 21, 22] := by decide +kernel
theorem yrReg : ∀ q ∈ CL, q.1 ∈ yrRs → q.2 ∈ [23, 24, 25, 26, 27, 28, 29] := by decide +kernel
theorem AgrC.agree {M : Mem} {r : Nat} {C C' : Ch} (hr : r ∈ chRs) (h : AgrC C C') : Agree (setR M r C) (setR M r C') := by
  intro q hq k hk
  by_cases e : q.1 = r
  · have h1 := chReg q hq (e ▸ hr)
    obtain ⟨q1, dd⟩ := q
    have e : q1 = r := e
    subst e
    rw [setR_same, setR_same]
    obtain ⟨a0, a1, a2, a3, a4⟩ := h
    simp only [List.mem_cons, List.not_mem_nil, or_false] at h1
    rcases h1 with rfl | rfl | rfl | rfl | rfl | rfl | rfl | rfl | rfl | rfl | rfl | rfl
    · have := relK_11 hk
      exact a0 k this.1 this.2
    · exact a1 1 (by omega) (by omega) k (relK_ar (dd := 12) (n := 8) (by decide) rfl hk)
    · exact a1 2 (by omega) (by omega) k (relK_ar (dd := 13) (n := 8) (by decide) rfl hk)
    · exact a1 3 (by omega) (by omega) k (relK_ar (dd := 14) (n := 8) (by decide) rfl hk)
    · exact a1 4 (by omega) (by omega) k (relK_ar (dd := 15) (n := 8) (by decide) rfl hk)
    · exact a2 5 (by omega) (by omega) k (relK_ar (dd := 16) (n := 48) (by decide) rfl hk)
    · exact a2 6 (by omega) (by omega) k (relK_ar (dd := 17) (n := 48) (by decide) rfl hk)
    · exact a2 7 (by omega) (by omega) k (relK_ar (dd := 18) (n := 48) (by decide) rfl hk)
    · have := relK_19 hk
      subst this
      exact a3
    · exact a4 9 (by omega) (by omega) k (relK_ar (dd := 20) (n := 8) (by decide) rfl hk)
    · exact a4 10 (by omega) (by omega) k (relK_ar (dd := 21) (n := 8) (by decide) rfl hk)
    · exact a4 11 (by omega) (by omega) k (relK_ar (dd := 22) (n := 8) (by decide) rfl hk)
  · rw [setR_ne _ _ e, setR_ne _ _ e]
def AgrY (C C' : Ch) : Prop := (∀ k, 6 ≤ k → k ≤ 8 → C 0 k = C' 0 k) ∧ ∀ c, 1 ≤ c → c ≤ 6 → ∀ k, k < 60 → C c k = C' c k
theorem AgrY.agree {M : Mem} {r : Nat} {C C' : Ch} (hr : r ∈ yrRs) (h : AgrY C C') : Agree (setR M r C) (setR M r C') := by
  intro q hq k hk
  by_cases e : q.1 = r
  · have h1 := yrReg q hq (e ▸ hr)
    obtain ⟨q1, dd⟩ := q
    have e : q1 = r := e
    subst e
    rw [setR_same, setR_same]
    obtain ⟨a0, a1⟩ := h
    simp only [List.mem_cons, List.not_mem_nil, or_false] at h1
    rcases h1 with rfl | rfl | rfl | rfl | rfl | rfl | rfl
    · have := relK_23 hk
      exact a0 k this.1 this.2
    · exact a1 1 (by omega) (by omega) k (relK_ar (dd := 24) (n := 60) (by decide) rfl hk)
    · exact a1 2 (by omega) (by omega) k (relK_ar (dd := 25) (n := 60) (by decide) rfl hk)
    · exact a1 3 (by omega) (by omega) k (relK_ar (dd := 26) (n := 60) (by decide) rfl hk)
    · exact a1 4 (by omega) (by omega) k (relK_ar (dd := 27) (n := 60) (by decide) rfl hk)
    · exact a1 5 (by omega) (by omega) k (relK_ar (dd := 28) (n := 60) (by decide) rfl hk)
    · exact a1 6 (by omega) (by omega) k (relK_ar (dd := 29) (n := 60) (by decide) rfl hk)
  · rw [setR_ne _ _ e, setR_ne _ _ e]
theorem iN_nn {n : Nat} (h : (n : Int) < 2147483648) : ¬ iN (n : Int) < 0 := by
  rw [iN_lt0 (by omega) h]; omega
theorem cp_n {n m : Nat} (h : (n : Int) < 2147483648) (hm : n ≤ m) : (iN 0).toNatClampNeg + (iN (n : Int)).toNatClampNeg ≤ m := by
  rw [iN_clN h, show (iN 0).toNatClampNeg = 0 from iN_clN (k := 0) (by decide)]
  omega
theorem cp_0 : (iN 0).toNatClampNeg = 0 := iN_clN (k := 0) (by decide)
def wtC (D C : Ch) : Ch := upd2 (cpC (cpC (cpC D 9 (C 9) 8) 10 (C 10) 8) 11 (C 11) 8) 8 3 (C 8 3)
theorem c_wTake {l : Launch} {E : EnvT} {d : Nat} {K : AV → Mem → Prop} {M : Mem} {r r2 : Nat} {D : Ch} (hd : 1 ≤ d) (hn : r2 ≠ r) (w : 0 ≤ M r2 8 3 ∧ M r2 8 3 ≤ 8) (h : K (.null, 0) (setR M r (wtC D (M r2)))) : CT l E d m_Waiting_takeFrom [(.ref r, 19), (.ref r2, 19)] (setR M r D) K := by
  refine CT.of pn_Waiting (Nat.le_of_ble_eq_true rfl) ?_
  refine b_Waiting_takeFrom_0 hd ?_
  have a0 : ¬ iN 0 < 0 := iN_nn (n := 0) (by decide)
  have a8 : ¬ iN 8 < 0 := iN_nn (n := 8) (by decide)
  have s8 : (iN 0).toNatClampNeg + (iN 8).toNatClampNeg ≤ 8 := cp_n (n := 8) (by decide) (by decide)
  refine ⟨a0, a0, a8, s8, s8, a0, a0, a8, s8, s8, a0, a0, a8, s8, s8, ?_⟩
  rw [cp_0, show (iN 8).toNatClampNeg = 8 from iN_clN (k := 8) (by decide)]
  simp only [cpyM_setR, upd3_setR, setR_same, setR_setR, setR_ne _ _ hn, iN_small (show -2147483648 ≤ M r2 8 3 by omega) (show M r2 8 3 < 2147483648 by omega)]
  exact h
theorem c_chTake {l : Launch} {E : EnvT} {d : Nat} {K : AV → Mem → Prop} {M : Mem} {r r2 : Nat} (hd : 2 ≤ d) (hr : r ∈ chRs) (hn : r2 ≠ r) (hV : VB (M r2)) (h : K (.null, 0) (setR M r (M r2))) : CT l E d m_Choir_takeFrom [(.ref r, 11), (.ref r2, 11)] M K := by
  refine CT.of pn_Choir (Nat.le_of_ble_eq_true rfl) ?_
  refine G.agree (K' := fun v M' => ∃ C, AgrC C (M r2) ∧ M' = setR M r C ∧ v = (.null, 0)) (fun v M' hk => ?_) ?_
  · obtain ⟨C, a, rfl, rfl⟩ := hk
    exact ⟨_, a.agree hr, h⟩
  refine b_Choir_takeFrom_0 (by omega) ?_
  have a0 : ¬ iN 0 < 0 := iN_nn (n := 0) (by decide)
  have a8 : ¬ iN 8 < 0 := iN_nn (n := 8) (by decide)
  have a48 : ¬ iN 48 < 0 := iN_nn (n := 48) (by decide)
  have s8 : (iN 0).toNatClampNeg + (iN 8).toNatClampNeg ≤ 8 := cp_n (n := 8) (by decide) (by decide)
  have s48 : (iN 0).toNatClampNeg + (iN 48).toNatClampNeg ≤ 48 := cp_n (n := 48) (by decide) (by decide)
  refine ⟨a0, a0, a8, s8, s8, a0, a0, a8, s8, s8, a0, a0, a8, s8, s8, a0, a0, a8, s8, s8, b_Choir_takeFrom_60 (by omega) ⟨a0, a0, a48, s48, s48, a0, a0, a48, s48, s48, a0, a0, a48, s48, s48, ?_⟩⟩
  rw [cp_0, show (iN 8).toNatClampNeg = 8 from iN_clN (k := 8) (by decide), show (iN 48).toNatClampNeg = 48 from iN_clN (k := 48) (by decide)]
  simp only [cpyM_setR, setR_same, setR_setR, setR_ne _ _ hn]
  have hw := hV.w
  refine c_wTake (by omega) hn hw (b_Choir_takeFrom_124 (by omega) ?_)
  have m9 := hV.ms 9 (by omega) (by omega)
  have m10 := hV.ms 10 (by omega) (by omega)
  have m11 := hV.ms 11 (by omega) (by omega)
  have m12 := hV.ms 12 (by omega) (by omega)
  have f8 := hV.n
  have f13 := hV.hum
  have f14 := hV.sun
  have f15 := hV.paid
  simp only [upd3_setR, setR_same, setR_setR, setR_ne _ _ hn, iN_small (show -2147483648 ≤ M r2 0 8 by omega) (show M r2 0 8 < 2147483648 by omega), iN_small (show -2147483648 ≤ M r2 0 9 by omega) (show M r2 0 9 < 2147483648 by omega), iN_small (show -2147483648 ≤ M r2 0 10 by omega) (show M r2 0 10 < 2147483648 by omega), iN_small (show -2147483648 ≤ M r2 0 11 by omega) (show M r2 0 11 < 2147483648 by omega), iN_small (show -2147483648 ≤ M r2 0 12 by omega) (show M r2 0 12 < 2147483648 by omega), iN_small (show -2147483648 ≤ M r2 0 13 by omega) (show M r2 0 13 < 2147483648 by omega), iN_small (show -2147483648 ≤ M r2 0 14 by omega) (show M r2 0 14 < 2147483648 by omega), iN_small f15.1 f15.2]
  refine ⟨_, ?_, rfl, trivial⟩
  generalize M r2 = C
  generalize M r = D
  refine ⟨fun k k1 k2 => ?_, fun c c1 c2 k hk => ?_, fun c c1 c2 k hk => ?_, ?_, fun c c1 c2 k hk => ?_⟩
  · have : k = 8 ∨ k = 9 ∨ k = 10 ∨ k = 11 ∨ k = 12 ∨ k = 13 ∨ k = 14 ∨ k = 15 := (by omega)
    rcases this with rfl | rfl | rfl | rfl | rfl | rfl | rfl | rfl <;> simp [upd2]
  · have : c = 1 ∨ c = 2 ∨ c = 3 ∨ c = 4 := (by omega)
    rcases this with rfl | rfl | rfl | rfl <;> simp [upd2, wtC, cpC, hk]
  · have : c = 5 ∨ c = 6 ∨ c = 7 := (by omega)
    rcases this with rfl | rfl | rfl <;> simp [upd2, wtC, cpC, hk]
  · simp [upd2, wtC]
  · have : c = 9 ∨ c = 10 ∨ c = 11 := (by omega)
    rcases this with rfl | rfl | rfl <;> simp [upd2, wtC, cpC, hk]
theorem c_yrTake {l : Launch} {E : EnvT} {d : Nat} {K : AV → Mem → Prop} {M : Mem} {r r2 : Nat} (hd : 1 ≤ d) (hr : r ∈ yrRs) (hn : r2 ≠ r) (b6 : 0 ≤ M r2 0 6 ∧ M r2 0 6 ≤ 60) (b7 : 0 ≤ M r2 0 7 ∧ M r2 0 7 ≤ 60) (b8 : M r2 0 8 = 0 ∨ M r2 0 8 = 1) (h : K (.null, 0) (setR M r (M r2))) : CT l E d m_Years_takeFrom [(.ref r, 23), (.ref r2, 23)] M K := by
  refine CT.of pn_Years (Nat.le_of_ble_eq_true rfl) ?_
  refine G.agree (K' := fun v M' => ∃ C, AgrY C (M r2) ∧ M' = setR M r C ∧ v = (.null, 0)) (fun v M' hk => ?_) ?_
  · obtain ⟨C, a, rfl, rfl⟩ := hk
    exact ⟨_, a.agree hr, h⟩
  refine b_Years_takeFrom_0 (by omega) ?_
  have a0 : ¬ iN 0 < 0 := iN_nn (n := 0) (by decide)
  have a60 : ¬ iN 60 < 0 := iN_nn (n := 60) (by decide)
  have s60 : (iN 0).toNatClampNeg + (iN 60).toNatClampNeg ≤ 60 := cp_n (n := 60) (by decide) (by decide)
  refine ⟨a0, a0, a60, s60, s60, a0, a0, a60, s60, s60, a0, a0, a60, s60, s60, a0, a0, a60, s60, s60, b_Years_takeFrom_60 (by omega) ⟨a0, a0, a60, s60, s60, a0, a0, a60, s60, s60, ?_⟩⟩
  rw [cp_0, show (iN 60).toNatClampNeg = 60 from iN_clN (k := 60) (by decide)]
  simp only [cpyM_setR, upd3_setR, setR_same, setR_setR, setR_ne _ _ hn, iN_small (show -2147483648 ≤ M r2 0 6 by omega) (show M r2 0 6 < 2147483648 by omega), iN_small (show -2147483648 ≤ M r2 0 7 by omega) (show M r2 0 7 < 2147483648 by omega), iN_small (show -2147483648 ≤ M r2 0 8 by omega) (show M r2 0 8 < 2147483648 by omega)]
  refine ⟨by rcases b8 with e | e <;> rw [e] <;> decide, _, ?_, rfl, trivial⟩
  generalize M r2 = C
  generalize M r = D
  refine ⟨fun k k1 k2 => ?_, fun c c1 c2 k hk => ?_⟩
  · have : k = 6 ∨ k = 7 ∨ k = 8 := (by omega)
    rcases this with rfl | rfl | rfl <;> simp [upd2]
  · have : c = 1 ∨ c = 2 ∨ c = 3 ∨ c = 4 ∨ c = 5 ∨ c = 6 := (by omega)
    rcases this with rfl | rfl | rfl | rfl | rfl | rfl <;> simp [upd2, cpC, hk]
