theorem swP_spec {x : Int32} {J : Nat → Prop} : ∀ (l : List (Int × Nat)) (d : Nat), swP x J l d → (∃ q ∈ l, x = iN q.1 ∧ J q.2) ∨ ((∀ q ∈ l, ¬ x = iN q.1) ∧ J d)
  | [], d, h => Or.inr ⟨fun q hq => (by cases hq), h⟩
  | (k, t) :: l, d, h => by
    by_cases e : x = iN k
    · exact Or.inl ⟨(k, t), List.mem_cons_self, e, h.1 e⟩
    · rcases swP_spec l d (h.2 e) with ⟨q, hq, h1⟩ | ⟨h1, h2⟩
      · exact Or.inl ⟨q, List.mem_cons_of_mem _ hq, h1⟩
      · refine Or.inr ⟨fun q hq => ?_, h2⟩
        rcases List.mem_cons.mp hq with rfl | hq
        · exact e
        · exact h1 q hq
theorem iN_small {z : Int} (h1 : -2147483648 ≤ z) (h2 : z < 2147483648) : (iN z).toInt = z := by
  unfold iN
  rw [Int32.toInt_ofInt]
  have h4 : (Int32.size : Int) = 4294967296 := rfl
  exact Int.bmod_eq_of_le (by omega) (by omega)
theorem tpairs_mem {pc : Nat} : ∀ (offs : List Int) (k : Int) (q : Int × Nat), q ∈ tpairs pc k offs → ∃ (i : Nat) (o : Int), offs[i]? = some o ∧ q.1 = k + i ∧ q.2 = ((pc : Int) + o).toNat
  | [], _, q, h => by cases h
  | o :: t, k, q, h => by
    rcases List.mem_cons.mp h with rfl | h
    · exact ⟨0, o, rfl, by simp, rfl⟩
    · obtain ⟨i, o', h1, h2, h3⟩ := tpairs_mem t (k + 1) q h
      exact ⟨i + 1, o', h1, by rw [h2]; push_cast; omega, h3⟩
theorem tpairs_all {pc : Nat} : ∀ (offs : List Int) (k : Int) (i : Nat), i < offs.length → ∃ t, (k + i, t) ∈ tpairs pc k offs
  | [], _, i, h => by simp at h
  | o :: t, k, 0, _ => ⟨((pc : Int) + o).toNat, by simp only [tpairs]; exact List.mem_cons.mpr (Or.inl (by simp))⟩
  | o :: t, k, i + 1, h => by
    obtain ⟨t', h'⟩ := tpairs_all (pc := pc) t (k + 1) i (by simpa using h)
    refine ⟨t', List.mem_cons_of_mem _ ?_⟩
    have e : k + ((i + 1 : Nat) : Int) = k + 1 + (i : Int) := by push_cast; omega
    rw [e]
    exact h'
theorem lpairs_off {pc : Nat} {x : Int32} {df : Int} : ∀ (ps : List (Int × Int)), (∀ q ∈ ps, -1000 ≤ q.1 ∧ q.1 ≤ 1000) → (∀ q ∈ lpairs pc ps, ¬ x = iN q.1) → Op.lookupswitch.offset ps df x.toInt = df
  | [], _, _ => rfl
  | (a, o) :: t, h, h2 => by
    rw [Op.lookupswitch.offset_cons, if_neg]
    · exact lpairs_off t (fun q hq => h q (List.mem_cons_of_mem _ hq)) (fun q hq => h2 q (List.mem_cons_of_mem _ hq))
    · intro e
      have := h (a, o) List.mem_cons_self
      apply h2 (a, ((pc : Int) + o).toNat) List.mem_cons_self
      rw [e, iN_toInt]
theorem lpairs_mem {pc : Nat} : ∀ (l : List (Int × Int)) (q : Int × Nat), q ∈ lpairs pc l → ∃ o', (q.1, o') ∈ l
  | [], q, h => by cases h
  | (a, o) :: l, q, h => by
    rcases List.mem_cons.mp h with rfl | h
    · exact ⟨o, List.mem_cons_self⟩
    · obtain ⟨o', h'⟩ := lpairs_mem l q h
      exact ⟨o', List.mem_cons_of_mem _ h'⟩
theorem lpairs_hit {pc : Nat} {x : Int32} {df : Int} : ∀ (ps : List (Int × Int)), (∀ q ∈ ps, -1000 ≤ q.1 ∧ q.1 ≤ 1000) → (ps.zip (ps.drop 1)).all (fun (a, next) => a.1 < next.1) = true → ∀ q ∈ lpairs pc ps, x = iN q.1 → ∃ o, Op.lookupswitch.offset ps df x.toInt = o ∧ q.2 = ((pc : Int) + o).toNat ∧ ∃ a, (a, o) ∈ ps
  | [], _, _, q, hq, _ => by cases hq
  | (a, o) :: t, h, hs, q, hq, e => by
    have ha := h (a, o) List.mem_cons_self
    by_cases hae : a = x.toInt
    · refine ⟨o, by rw [Op.lookupswitch.offset_cons, if_pos hae], ?_, a, List.mem_cons_self⟩
      rcases List.mem_cons.mp hq with rfl | hq
      · rfl
      · exfalso
        have hlt : ∀ (l : List (Int × Int)) (b : Int × Int), ((b :: l).zip ((b :: l).drop 1)).all (fun (a, next) => a.1 < next.1) = true → ∀ c ∈ l, b.1 < c.1 := by
          intro l
          induction l with
          | nil => intro b _ c hc; cases hc
          | cons d l ih =>
            intro b hb c hc
            have hb' : (decide (b.1 < d.1) && ((d :: l).zip ((d :: l).drop 1)).all (fun (a, next) => a.1 < next.1)) = true := hb
            rw [Bool.and_eq_true, decide_eq_true_eq] at hb'
            rcases List.mem_cons.mp hc with rfl | hc
            · exact hb'.1
            · exact Int.lt_trans hb'.1 (ih d hb'.2 c hc)
        have hm : ∃ o', (q.1, o') ∈ t := lpairs_mem t q hq
        obtain ⟨o', ho'⟩ := hm
        have h1 := hlt t (a, o) hs (q.1, o') ho'
        have h2 := h (q.1, o') (List.mem_cons_of_mem _ ho')
        have h3 : x.toInt = q.1 := by rw [e]; exact iN_small (by omega) (by omega)
        simp only at h1
        omega
    · rcases List.mem_cons.mp hq with rfl | hq
      · exfalso
        apply hae
        rw [e]
        exact (iN_small (by omega) (by omega)).symm
      · have hs' : (t.zip (t.drop 1)).all (fun (a, next) => a.1 < next.1) = true := by
          cases t with
          | nil => rfl
          | cons b t =>
            have hb' : (decide (a < b.1) && ((b :: t).zip ((b :: t).drop 1)).all (fun (a, next) => a.1 < next.1)) = true := hs
            rw [Bool.and_eq_true] at hb'
            exact hb'.2
        obtain ⟨o', h1, h2, b, h3⟩ := lpairs_hit (df := df) t (fun q hq => h q (List.mem_cons_of_mem _ hq)) hs' q hq e
        exact ⟨o', by rw [Op.lookupswitch.offset_cons, if_neg hae]; exact h1, h2, b, List.mem_cons_of_mem _ h3⟩
theorem wCpy_inv {st st' : List AV} {M M' : Mem} {P : List Prop} (h : wCpy st M = some (P, st', M')) : ∃ n dn dp ddp r1 d1 sp dsp r0 d0, st = (.int n, dn) :: (.int dp, ddp) :: (.ref r1, d1) :: (.int sp, dsp) :: (.ref r0, d0) :: st' ∧ (((dsc d0).2.1 = 100 ∧ (dsc d1).2.1 = 100) ∨ ((dsc d0).2.1 = 101 ∧ (dsc d1).2.1 = 101)) ∧ P = [¬ sp < 0, ¬ dp < 0, ¬ n < 0, sp.toNatClampNeg + n.toNatClampNeg ≤ dlen d0, dp.toNatClampNeg + n.toNatClampNeg ≤ dlen d1] ∧ M' = updC M r1 (dsc d1).1 (va_cpy (M r0 (dsc d0).1) (M r1 (dsc d1).1) sp.toNatClampNeg dp.toNatClampNeg n.toNatClampNeg) := by
  unfold wCpy at h
  split at h
  · split at h
    · rename_i h1
      cases h
      exact ⟨_, _, _, _, _, _, _, _, _, _, rfl, h1.2, rfl, rfl⟩
    · cases h
  · cases h
theorem wCpy_cs {st st' : List AV} {M M' : Mem} {P : List Prop} (h : wCpy st M = some (P, st', M')) : csum st' ≤ 8 := by
  unfold wCpy at h
  split at h
  · split at h
    · rename_i h1
      cases h
      exact h1.1
    · cases h
  · cases h
theorem updC_off (M : Mem) (r c : Nat) (f : Nat → Int) (r' c' : Nat) (h : ¬ (r' = r ∧ c' = c)) : updC M r c f r' c' = M r' c' := by
  unfold updC
  rw [if_neg h]
theorem updC_same (M : Mem) (r c : Nat) (f : Nat → Int) : updC M r c f r c = f := by simp [updC]
theorem cpy_map {α β : Type} (g : α → β) (f h : Nat → α) (a b n : Nat) : va_cpy (fun k => g (f k)) (fun k => g (h k)) a b n = fun k => g (va_cpy f h a b n k) := by
  funext k
  unfold va_cpy
  split <;> rfl
set_option maxHeartbeats 4000000 in
theorem cpy_ok {l : Launch} {E : EnvT} {d : Nat} {mi cal : MI} {i h pc : Nat} {st st' : List AV} {M M' : Mem} {P : List Prop} {Q : State → Prop} {p : Program} {e : Env} {s : State} {m : MethodId} {args : Array Value} {below : List Frame} {meth : Method} {c : Code} {H : Heap} {locs : List Loc} {la : Array Slot}
    (hC : CX E mi p s m args meth c) (hd : 1 ≤ d) (hdec : decode mi.2.1 pc = .ok (.invokestatic i, 3)) (hok : okCpy mi i h cal = true) (hs : wCpy st M = some (P, st', M')) (hcs : csum st' ≤ 8) (hH : HX E M H) (hS : va_S (Ab E) s.heap H locs) (hT2 : ∀ v ∈ st, TV v) (hP : andL P True) (hl : la.size = mi.2.2.1)
    (k : ∀ (H' : Heap) (locs' : List Loc), HX E M' H' → va_S (Ab E) s.heap H' locs' → (∀ v ∈ st', TV v) → W p l e (rmD d) s m args below meth c H' locs' 0 0 Q (F0 m (pc + 3) la (st'.map (cv E)))) :
    W p l e (rmD d) s m args below meth c H locs 0 0 Q (F0 m pc la (st.map (cv E))) := by
  obtain ⟨hx, hb, hml, hown, hts, hr, hlocks, hKK, hDX, hbs⟩ := hC
  have hD := hDX.all M
  have hK := hKK.1
  simp only [okCpy, Bool.and_eq_true, decide_eq_true_eq] at hok
  obtain ⟨w1, w2, w3, w4⟩ := hok
  obtain ⟨n, dn, dp, ddp, r1, d1, sp, dsp, r0, d0, rfl, htag, rfl, rfl⟩ := wCpy_inv hs
  obtain ⟨p1, p2, p3, p4, p5, -⟩ := hP
  have hT9 : ∀ v ∈ st', TV v := fun v hv => hT2 v (List.mem_cons_of_mem _ (List.mem_cons_of_mem _ (List.mem_cons_of_mem _ (List.mem_cons_of_mem _ (List.mem_cons_of_mem _ hv)))))
  have ht0 : TV (.ref r0, d0) := hT2 _ (List.mem_cons_of_mem _ (List.mem_cons_of_mem _ (List.mem_cons_of_mem _ (List.mem_cons_of_mem _ List.mem_cons_self))))
  have ht1 : TV (.ref r1, d1) := hT2 _ (List.mem_cons_of_mem _ (List.mem_cons_of_mem _ List.mem_cons_self))
  have hfr : 1 ≤ (rmD d).frames := hd
  have hlo : ((st'.map (cv E)).map fun v => v.category).sum + (nativeFrameWords "java/lang/System" "arraycopy" 5 + 11) ≤ (rmD d).locals := by
    rw [csum_cv]
    have : nativeFrameWords "java/lang/System" "arraycopy" 5 + 11 ≤ 50 := by decide +kernel
    show _ ≤ 64 * d
    omega
  rcases htag with ⟨hg0, hg1⟩ | ⟨hg0, hg1⟩
  · have hd0 : d0 ≠ 999 := tag_ne hg0 (by omega)
    have hd1 : d1 ≠ 999 := tag_ne hg1 (by omega)
    obtain ⟨q0, hq0⟩ := TV_CL ht0 hd0
    obtain ⟨q1, hq1⟩ := TV_CL ht1 hd1
    have he0 := WL_cell (E := E) (M := M) hq0
    have he1 := WL_cell (E := E) (M := M) hq1
    rw [cell_int E M hg0] at he0
    rw [cell_int E M hg1] at he1
    simp only [List.map_cons, cv_al E hd0, cv_al E hd1, cv_int]
    refine va_copyi (ty := .int) hx hb (hml.trans hl.symm) hown (hts _ (in_WS w1 rfl)) (hts _ (in_WS w2 rfl)) (hts _ (in_WS w3 rfl)) (hts _ (in_WS w4 rfl)) hK hH hD hS q0 q1 0 0 he0 he1 rfl rfl rfl p1 p2 p3 p4 p5 (fun i _ => rfl) hfr hlo hdec (fun H1 locs1 hP1 hD1 hS1 => ?_)
    rw [WL_set (M' := updC M r1 (dsc d1).1 (va_cpy (M r0 (dsc d0).1) (M r1 (dsc d1).1) sp.toNatClampNeg dp.toNatClampNeg n.toNatClampNeg)) hq1 (by rw [cell_int E _ hg1, updC_same, cpy_map iN]) (updC_off M r1 (dsc d1).1 _)] at hP1
    exact k H1 locs1 hP1 hS1 hT9
  · have hd0 : d0 ≠ 999 := tag_ne hg0 (by omega)
    have hd1 : d1 ≠ 999 := tag_ne hg1 (by omega)
    obtain ⟨q0, hq0⟩ := TV_CL ht0 hd0
    obtain ⟨q1, hq1⟩ := TV_CL ht1 hd1
    have he0 := WL_cell (E := E) (M := M) hq0
    have he1 := WL_cell (E := E) (M := M) hq1
    rw [cell_long E M hg0] at he0
    rw [cell_long E M hg1] at he1
    simp only [List.map_cons, cv_al E hd0, cv_al E hd1, cv_int]
    refine va_copyl (ty := .long) hx hb (hml.trans hl.symm) hown (hts _ (in_WS w1 rfl)) (hts _ (in_WS w2 rfl)) (hts _ (in_WS w3 rfl)) (hts _ (in_WS w4 rfl)) hK hH hD hS q0 q1 1 1 he0 he1 rfl rfl rfl p1 p2 p3 p4 p5 (fun i _ => rfl) hfr hlo hdec (fun H1 locs1 hP1 hD1 hS1 => ?_)
    rw [WL_set (M' := updC M r1 (dsc d1).1 (va_cpy (M r0 (dsc d0).1) (M r1 (dsc d1).1) sp.toNatClampNeg dp.toNatClampNeg n.toNatClampNeg)) hq1 (by rw [cell_long E _ hg1, updC_same, cpy_map lI]) (updC_off M r1 (dsc d1).1 _)] at hP1
    exact k H1 locs1 hP1 hS1 hT9
