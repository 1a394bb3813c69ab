set_option maxHeartbeats 4000000 in
theorem stepC_ok {l : Launch} {E : EnvT} {d : Nat} {mi : MI} {ins : Instr} {len aux h pc : Nat} {z : Int} {st st' : List AV} {M M' : Mem} {P : List Prop} {Q : State → Prop} {p : Program} {e : Env} {s : State} {m : MethodId} {args : Array Value} {below : List Frame} {meth : Method} {c : Code} {H : Heap} {locs : List Loc} {la : Array Slot}
    (hC : CX E mi p s m args meth c) (hdec : decode mi.2.1 pc = .ok (ins, len)) (hlen : len = ilen ins) (hok : okC mi ins aux z h = true) (hs : stepC ins aux z st M = some (P, st', M')) (hH : HX E M H) (hS : va_S (Ab E) s.heap H locs) (hT2 : ∀ v ∈ st, TV v) (hP : andL P True)
    (k : ∀ (H' : Heap) (locs' : List Loc), HX E M' H' → va_S (Ab E) s.heap H' locs' → (∀ v ∈ st', TV v) → W p l e (rmD d) s m args below meth c H' locs' 0 0 Q (F0 m (pc + len) la (st'.map (cv E)))) :
    W p l e (rmD d) s m args below meth c H locs 0 0 Q (F0 m pc la (st.map (cv E))) := by
  obtain ⟨hx, hb, hml, hown, hts, hr, hlocks, hKK, hDX, hbs⟩ := hC
  have hD := hDX.all M
  have hK := hKK.1
  subst hlen
  have tl1 : ∀ {a : AV} {t : List AV}, (∀ v ∈ a :: t, TV v) → ∀ v ∈ t, TV v := fun h v hv => h v (List.mem_cons_of_mem _ hv)
  have hwords : ∀ {q : vw_C}, q ∈ vCl → ∀ w ∈ u_ws q.1 q.2.1 q.2.2, w ∈ WS mi := fun hq w hw => List.mem_cons_of_mem _ (cl_words _ hq w hw)
  cases ins with
  | idiv =>
    obtain ⟨x, y, dx, dy, t, rfl, rfl, rfl, rfl⟩ := cDivI_inv hs
    exact lv_idiv hx hb hdec hP.1 (k H locs hH hS (cons_TV (tl1 (tl1 hT2)) trivial))
  | irem =>
    obtain ⟨x, y, dx, dy, t, rfl, rfl, rfl, rfl⟩ := cRemI_inv hs
    exact lv_irem hx hb hdec hP.1 (k H locs hH hS (cons_TV (tl1 (tl1 hT2)) trivial))
  | ldiv =>
    obtain ⟨x, y, dx, dy, t, rfl, rfl, rfl, rfl⟩ := cDivL_inv hs
    exact lv_ldiv hx hb hdec hP.1 (k H locs hH hS (cons_TV (tl1 (tl1 hT2)) trivial))
  | lrem =>
    obtain ⟨x, y, dx, dy, t, rfl, rfl, rfl, rfl⟩ := cRemL_inv hs
    exact lv_lrem hx hb hdec hP.1 (k H locs hH hS (cons_TV (tl1 (tl1 hT2)) trivial))
  | getfield i =>
    obtain ⟨r, dd, t, q, rfl, htag, hq, rfl, rfl, rfl⟩ := cGet_inv hs
    simp only [okC] at hok
    split at hok
    · rename_i cq hcq
      simp only [Bool.and_eq_true, decide_eq_true_eq] at hok
      have hci : z.toNat < 12 := by
        have := (List.getElem?_eq_some_iff.mp hcq).1
        exact this
      have hdd : dd ≠ 999 := tag_ne htag (by omega)
      obtain ⟨q0, hq0⟩ := TV_CL (hT2 _ List.mem_cons_self) hdd
      have hmem := List.mem_of_getElem? hq0
      have he := WL_cell (E := E) (M := M') hq0
      rw [cell_obj E M' (by omega), htag] at he
      have hv : (flds E M' r (dsc dd).1 0 (dsc dd).2.2)[aux]? = some (fval E M' r (dsc dd).1 aux q) := by
        rw [flds_get, hq]
        simp
      rw [List.map_cons, cv_al E hdd]
      have hfv : cv E (fget M' r (dsc dd).1 aux q).2 = fval E M' r (dsc dd).1 aux q ∧ TV (fget M' r (dsc dd).1 aux q).2 := by
        have hs2 := dl_same (r, dd) hmem q (List.mem_of_getElem? hq) (by show (dsc dd).2.1 < 100; omega)
        obtain ⟨qa, qb⟩ := q
        match qa, hs2, hP with
        | 0, _, _ => exact ⟨rfl, trivial⟩
        | 1, _, _ => exact ⟨rfl, trivial⟩
        | 2, _, _ => exact ⟨rfl, trivial⟩
        | 3, hs2, _ => exact ⟨cv_al E (hs2.1 rfl).2, Or.inr ⟨(hs2.1 rfl).2, (hs2.1 rfl).1⟩⟩
        | 4, hs2, _ => exact ⟨cv_al E (hs2.2 rfl).2, Or.inr ⟨(hs2.2 rfl).2, (hs2.2 rfl).1⟩⟩
        | n + 5, _, hP =>
          have h9 := CL_not999 _ hP.1
          exact ⟨cv_al E h9, Or.inr ⟨h9, hP.1⟩⟩
      refine va_get (D := eD E) (ci := z.toNat) (C := cq.1) (T := cq.2.1) (N := cq.2.2) hx hb hts (hwords (List.mem_of_getElem? hcq)) hown hK hH q0 he hcq aux hok.1 (hts _ (in_WS hok.2 rfl)) (fun _ h9 => h9) hv hdec ?_
      have hk := k H locs hH hS (cons_TV (tl1 hT2) hfv.2)
      rw [List.map_cons, hfv.1] at hk
      exact hk
    · cases hok
  | putfield i =>
    obtain ⟨v, r, dd, q, rfl, htag, hq, hf⟩ := cPut_inv hs
    simp only [okC] at hok
    split at hok
    · rename_i cq hcq
      simp only [Bool.and_eq_true, decide_eq_true_eq] at hok
      have hci : z.toNat < 12 := (List.getElem?_eq_some_iff.mp hcq).1
      have hdd : dd ≠ 999 := tag_ne htag (by omega)
      obtain ⟨q0, hq0⟩ := TV_CL (hT2 _ (List.mem_cons_of_mem _ List.mem_cons_self)) hdd
      have hmem := List.mem_of_getElem? hq0
      have he := WL_cell (E := E) (M := M) hq0
      rw [cell_obj E M (by omega), htag] at he
      have hkl : aux < (dsc dd).2.2.length := (List.getElem?_eq_some_iff.mp hq).1
      have hkt : kTy q.1 (clTy z.toNat aux) = true := by
        have := dl_ty dd (dl_lt _ hmem) (by omega) aux hkl
        rw [List.getD_eq_getElem?_getD, hq, htag] at this
        exact this
      obtain ⟨f1, f2, f3, f4, f5, f6⟩ := fput_kind (E := E) hf hkt hP
      have hfv : fval E M' r (dsc dd).1 aux q = cv E v := by
        rw [f3]
        split
        · rename_i h5
          split
          · rename_i h9
            have h6 := f6 h5
            have hs2 := dl_same (r, dd) hmem q (List.mem_of_getElem? hq) (by show (dsc dd).2.1 < 100; omega)
            have hb5 : ∀ p ∈ CL, ∀ q ∈ (dsc p.2).2.2, (dsc p.2).2.1 < 100 → q.1 = 5 → q.2 ≠ 999 := by decide +kernel
            exact absurd (h6.symm.trans h9) (hb5 (r, dd) hmem q (List.mem_of_getElem? hq) (by show (dsc dd).2.1 < 100; omega) h5)
          · rfl
        · rfl
      rw [List.map_cons, List.map_cons, cv_al E hdd]
      refine va_put (D := eD E) (ci := z.toNat) (C := cq.1) (T := cq.2.1) (N := cq.2.2) hx hb hts (hwords (List.mem_of_getElem? hcq)) (clTy z.toNat) (cl_ty z.toNat hci cq hcq) (cl_nm cq (List.mem_of_getElem? hcq)) hown hK hH hD hS q0 he hcq aux hok.1 (hts _ (in_WS hok.2.2 rfl)) (fun _ h9 => h9) hok.2.1 (cl_ty z.toNat hci cq hcq aux hok.1) f1 f2 (by rw [flds_len]; exact hkl) hdec (fun H1 locs1 hP1 hD1 hS1 => ?_)
      rw [WL_set (M' := M') hq0 (by rw [cell_obj E M' (by omega), htag, ← flds_set E hq hfv f4]) f5] at hP1
      exact k H1 locs1 hP1 hS1 (tl1 (tl1 hT2))
    · cases hok
  | iaload =>
    obtain ⟨i, di, r, dd, t, rfl, htag, rfl, rfl, rfl⟩ := cAldI_inv hs
    have hdd : dd ≠ 999 := tag_ne htag (by omega)
    obtain ⟨q0, hq0⟩ := TV_CL (hT2 _ (List.mem_cons_of_mem _ List.mem_cons_self)) hdd
    have he := WL_cell (E := E) (M := M') hq0
    rw [cell_int E M' htag] at he
    rw [List.map_cons, List.map_cons, cv_al E hdd]
    exact va_iald hx hb hK hH q0 0 he rfl hP.1 hdec (k H locs hH hS (cons_TV (tl1 (tl1 hT2)) trivial))
  | baload =>
    obtain ⟨i, di, r, dd, t, rfl, htag, rfl, rfl, rfl⟩ := cAldI_inv hs
    have hdd : dd ≠ 999 := tag_ne htag (by omega)
    obtain ⟨q0, hq0⟩ := TV_CL (hT2 _ (List.mem_cons_of_mem _ List.mem_cons_self)) hdd
    have he := WL_cell (E := E) (M := M') hq0
    rw [cell_byte E M' htag] at he
    rw [List.map_cons, List.map_cons, cv_al E hdd]
    exact va_bald hx hb hK hH q0 2 he rfl hP.1 hdec (k H locs hH hS (cons_TV (tl1 (tl1 hT2)) trivial))
  | laload =>
    obtain ⟨i, di, r, dd, t, rfl, htag, rfl, rfl, rfl⟩ := cAldL_inv hs
    have hdd : dd ≠ 999 := tag_ne htag (by omega)
    obtain ⟨q0, hq0⟩ := TV_CL (hT2 _ (List.mem_cons_of_mem _ List.mem_cons_self)) hdd
    have he := WL_cell (E := E) (M := M') hq0
    rw [cell_long E M' htag] at he
    rw [List.map_cons, List.map_cons, cv_al E hdd]
    exact va_lald hx hb hK hH q0 1 he rfl hP.1 hdec (k H locs hH hS (cons_TV (tl1 (tl1 hT2)) trivial))
  | aaload =>
    obtain ⟨i, di, r, dd, t, rfl, htag, rfl, rfl, rfl⟩ := cAldQ_inv hs
    have hdd : dd ≠ 999 := by
      intro e
      rw [e] at htag
      exact absurd htag (by decide +kernel)
    obtain ⟨q0, hq0⟩ := TV_CL (hT2 _ (List.mem_cons_of_mem _ List.mem_cons_self)) hdd
    have hmem := List.mem_of_getElem? hq0
    have he := WL_cell (E := E) (M := M') hq0
    rw [cell_ref E M' htag.1] at he
    have hin : vp_in i (dsc dd).2.2.length := hP.1
    have hlt : i.toNatClampNeg < (dsc dd).2.2.length := Nat.not_le.mp fun q => hin (Or.inr q)
    have hg : (dsc dd).2.2[i.toNatClampNeg]? = some ((dsc dd).2.2.getD i.toNatClampNeg (0, 0)) := by
      rw [List.getD_eq_getElem?_getD, List.getElem?_eq_getElem hlt]
      rfl
    generalize hqq : (dsc dd).2.2.getD i.toNatClampNeg (0, 0) = qq at hg
    have ha := dl_arr (r, dd) hmem qq (List.mem_of_getElem? hg) htag.1
    have hty : ∃ C, (tysE E)[(dsc dd).2.1 - 100]? = some (eC E ((dsc dd).2.1 - 100), .object C) := by
      have h3 : (dsc dd).2.1 = 103 ∨ (dsc dd).2.1 = 104 ∨ (dsc dd).2.1 = 105 := by omega
      rcases h3 with h3 | h3 | h3 <;> rw [h3] <;> exact ⟨_, rfl⟩
    obtain ⟨Cn, hty⟩ := hty
    rw [List.map_cons, List.map_cons, cv_al E hdd]
    refine va_aldq hx hb hK hH q0 _ he hty hin hdec ?_
    rw [hg]
    have hk := k H locs hH hS (cons_TV (tl1 (tl1 hT2)) (by rw [hqq]; exact Or.inr ⟨by rw [← ha.1]; exact ha.2.2, by rw [← ha.1]; exact ha.2.1⟩))
    rw [List.map_cons, cv_al E (by rw [← ha.1]; exact ha.2.2), hqq, ← ha.1] at hk
    exact hk
  | iastore =>
    obtain ⟨x, dx, i, di, r, dd, rfl, htag, rfl, rfl⟩ := cAstI_inv hs
    have hdd : dd ≠ 999 := tag_ne htag (by omega)
    obtain ⟨q0, hq0⟩ := TV_CL (hT2 _ (List.mem_cons_of_mem _ (List.mem_cons_of_mem _ List.mem_cons_self))) hdd
    have he := WL_cell (E := E) (M := M) hq0
    rw [cell_int E M htag] at he
    rw [List.map_cons, List.map_cons, List.map_cons, cv_al E hdd]
    refine va_iast hx hb hK hH hD hS q0 0 he rfl hP.1 hdec (fun H1 locs1 hP1 hD1 hS1 => ?_)
    rw [WL_set (M' := upd3 M r (dsc dd).1 i.toNatClampNeg x.toInt) hq0 (by rw [cell_int E _ htag, arr_upd (iN_toInt x)]) (upd3_off M r (dsc dd).1 _ _)] at hP1
    exact k H1 locs1 hP1 hS1 (tl1 (tl1 (tl1 hT2)))
  | bastore =>
    obtain ⟨x, dx, i, di, r, dd, rfl, htag, rfl, rfl⟩ := cAstB_inv hs
    have hdd : dd ≠ 999 := tag_ne htag (by omega)
    obtain ⟨q0, hq0⟩ := TV_CL (hT2 _ (List.mem_cons_of_mem _ (List.mem_cons_of_mem _ List.mem_cons_self))) hdd
    have he := WL_cell (E := E) (M := M) hq0
    rw [cell_byte E M htag] at he
    rw [List.map_cons, List.map_cons, List.map_cons, cv_al E hdd]
    refine va_bast hx hb hK hH hD hS q0 2 he rfl hP.1 hdec (fun H1 locs1 hP1 hD1 hS1 => ?_)
    rw [vp_nar_byte] at hP1
    rw [WL_set (M' := upd3 M r (dsc dd).1 i.toNatClampNeg (x.toInt8.toInt32).toInt) hq0 (by rw [cell_byte E _ htag, arr_upd (iN_toInt _)]) (upd3_off M r (dsc dd).1 _ _)] at hP1
    exact k H1 locs1 hP1 hS1 (tl1 (tl1 (tl1 hT2)))
  | lastore =>
    obtain ⟨x, dx, i, di, r, dd, rfl, htag, rfl, rfl⟩ := cAstL_inv hs
    have hdd : dd ≠ 999 := tag_ne htag (by omega)
    obtain ⟨q0, hq0⟩ := TV_CL (hT2 _ (List.mem_cons_of_mem _ (List.mem_cons_of_mem _ List.mem_cons_self))) hdd
    have he := WL_cell (E := E) (M := M) hq0
    rw [cell_long E M htag] at he
    rw [List.map_cons, List.map_cons, List.map_cons, cv_al E hdd]
    refine va_last hx hb hK hH hD hS q0 1 he rfl hP.1 hdec (fun H1 locs1 hP1 hD1 hS1 => ?_)
    rw [WL_set (M' := upd3 M r (dsc dd).1 i.toNatClampNeg x.toInt) hq0 (by rw [cell_long E _ htag, arr_updL (lI_toInt x)]) (upd3_off M r (dsc dd).1 _ _)] at hP1
    exact k H1 locs1 hP1 hS1 (tl1 (tl1 (tl1 hT2)))
  | arraylength =>
    obtain ⟨r, dd, t, rfl, htag, rfl, rfl, rfl⟩ := cLen_inv hs
    have hdd : dd ≠ 999 := by
      rcases htag with h1 | h1 | h1 <;> exact tag_ne h1 (by omega)
    obtain ⟨q0, hq0⟩ := TV_CL (hT2 _ List.mem_cons_self) hdd
    have he := WL_cell (E := E) (M := M') hq0
    rw [List.map_cons, cv_al E hdd]
    have hk := k H locs hH hS (cons_TV (tl1 hT2) trivial)
    have hv : Int32.ofNat (dlen dd) = iN (dlen dd) := (Int32.ofInt_eq_ofNat).symm
    rcases htag with h1 | h1 | h1
    · rw [cell_int E M' h1] at he
      exact va_alen hx hb hK hH q0 0 he rfl hv hdec hk
    · rw [cell_long E M' h1] at he
      exact va_alen hx hb hK hH q0 1 he rfl hv hdec hk
    · rw [cell_byte E M' h1] at he
      exact va_alen hx hb hK hH q0 2 he rfl hv hdec hk
  | _ => cases hs
