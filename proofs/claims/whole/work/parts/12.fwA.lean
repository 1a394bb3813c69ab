theorem andL_True : ∀ {P : List Prop} {q : Prop}, andL P q → andL P True
  | [], _, _ => trivial
  | _ :: _, _, h => ⟨h.1, andL_True h.2⟩
theorem okLen_S {ins : Instr} {len aux : Nat} {z : Int} {ls : LsT} {st : List AV} {q : LsT × List AV} (h : okLen ins len = true) (hs : stepS ins aux z ls st = some q) : len = ilen ins := by
  unfold okLen at h
  split at h
  · cases hs
  · cases hs
  · exact of_decide_eq_true h
theorem okLen_C {ins : Instr} {len aux : Nat} {z : Int} {st : List AV} {M : Mem} {q : List Prop × List AV × Mem} (h : okLen ins len = true) (hs : stepC ins aux z st M = some q) : len = ilen ins := by
  unfold okLen at h
  split at h
  · cases hs
  · cases hs
  · exact of_decide_eq_true h
set_option maxHeartbeats 4000000 in
theorem wpX_ok {l : Launch} {E : EnvT} {d : Nat} {mi : MI} {K : AV → Mem → Prop} {J : JT} {op : OpT} {nx : LsT → List AV → Mem → Prop} {ls : LsT} {st : List AV} {M : Mem} (hd : 1 ≤ d) (hJ : ∀ pc ls st M, J pc ls st M → G l E d mi pc ls st M K) (hnx : ∀ ls st M, nx ls st M → G l E d mi (op.1 + op.2.2.1) ls st M K) (hok : okB mi op = true) (h : wpX l E d mi K J op nx ls st M) : G l E d mi op.1 ls st M K := by
  obtain ⟨pc, ins, len, aux, z, hh, cal⟩ := op
  simp only [okB, Bool.and_eq_true, decide_eq_true_eq] at hok
  obtain ⟨hdec, hlen, -, -, hX⟩ := hok
  intro p e s m args below meth c H locs la hC hH hS hT1 hT2 hl
  have hC0 := hC
  obtain ⟨hx, hb, hml, hown, hts, hr, hlocks, hKK, hDX, hbs⟩ := hC
  have tl1 : ∀ {a : AV} {t : List AV}, (∀ v ∈ a :: t, TV v) → ∀ v ∈ t, TV v := fun h v hv => h v (List.mem_cons_of_mem _ hv)
  cases ins with
  | goto o =>
    have hl3 : len = 3 := of_decide_eq_true hlen
    subst hl3
    exact lv_goto hx hb hdec (of_decide_eq_true hX) (hJ _ _ _ _ h p e s m args below meth c H locs la hC0 hH hS hT1 hT2 hl)
  | if_icmp cc o =>
    have hl3 : len = 3 := of_decide_eq_true hlen
    subst hl3
    simp only [wpX] at h
    split at h
    · rename_i y dy x dx t
      have gJ : ∀ (hj : J aux ls t M), W p l e (rmD d) s m args below meth c H locs 0 0 (MQ below (QQ E mi K) args s 0 0 (Ab E)) (F0 m aux la (t.map (cv E))) := fun hj => hJ _ _ _ _ hj p e s m args below meth c H locs la hC0 hH hS hT1 (tl1 (tl1 hT2)) hl
      have gN : ∀ (hj : nx ls t M), W p l e (rmD d) s m args below meth c H locs 0 0 (MQ below (QQ E mi K) args s 0 0 (Ab E)) (F0 m (pc + 3) la (t.map (cv E))) := fun hj => hnx _ _ _ hj p e s m args below meth c H locs la hC0 hH hS hT1 (tl1 (tl1 hT2)) hl
      cases cc with
      | eq => exact lv_icmp_eq hx hb hdec (of_decide_eq_true hX) (fun q => gJ (h.1 q)) (fun q => gN (h.2 q))
      | ne => exact lv_icmp_ne hx hb hdec (of_decide_eq_true hX) (fun q => gJ (h.1 q)) (fun q => gN (h.2 q))
      | lt => exact lv_icmp_lt hx hb hdec (of_decide_eq_true hX) (fun q => gJ (h.1 q)) (fun q => gN (h.2 q))
      | ge => exact lv_icmp_ge hx hb hdec (of_decide_eq_true hX) (fun q => gJ (h.1 q)) (fun q => gN (h.2 q))
      | gt => exact lv_icmp_gt hx hb hdec (of_decide_eq_true hX) (fun q => gJ (h.1 q)) (fun q => gN (h.2 q))
      | le => exact lv_icmp_le hx hb hdec (of_decide_eq_true hX) (fun q => gJ (h.1 q)) (fun q => gN (h.2 q))
    · exact h.elim
  | ifCond cc o =>
    have hl3 : len = 3 := of_decide_eq_true hlen
    subst hl3
    simp only [wpX] at h
    split at h
    · rename_i x dx t
      have gJ : ∀ (hj : J aux ls t M), W p l e (rmD d) s m args below meth c H locs 0 0 (MQ below (QQ E mi K) args s 0 0 (Ab E)) (F0 m aux la (t.map (cv E))) := fun hj => hJ _ _ _ _ hj p e s m args below meth c H locs la hC0 hH hS hT1 (tl1 hT2) hl
      have gN : ∀ (hj : nx ls t M), W p l e (rmD d) s m args below meth c H locs 0 0 (MQ below (QQ E mi K) args s 0 0 (Ab E)) (F0 m (pc + 3) la (t.map (cv E))) := fun hj => hnx _ _ _ hj p e s m args below meth c H locs la hC0 hH hS hT1 (tl1 hT2) hl
      cases cc with
      | eq => exact lv_if_eq hx hb hdec (of_decide_eq_true hX) (fun q => gJ (h.1 q)) (fun q => gN (h.2 q))
      | ne => exact lv_if_ne hx hb hdec (of_decide_eq_true hX) (fun q => gJ (h.1 q)) (fun q => gN (h.2 q))
      | lt => exact lv_if_lt hx hb hdec (of_decide_eq_true hX) (fun q => gJ (h.1 q)) (fun q => gN (h.2 q))
      | ge => exact lv_if_ge hx hb hdec (of_decide_eq_true hX) (fun q => gJ (h.1 q)) (fun q => gN (h.2 q))
      | gt => exact lv_if_gt hx hb hdec (of_decide_eq_true hX) (fun q => gJ (h.1 q)) (fun q => gN (h.2 q))
      | le => exact lv_if_le hx hb hdec (of_decide_eq_true hX) (fun q => gJ (h.1 q)) (fun q => gN (h.2 q))
    · exact h.elim
  | tableswitch df lo hi offs =>
    simp only [wpX] at h
    simp only [okX, Bool.and_eq_true, decide_eq_true_eq, List.all_eq_true] at hX
    obtain ⟨b1, b2, b3, b4⟩ := hX
    split at h
    · rename_i x dx t
      rcases swP_spec _ _ h with ⟨q, hq, hxq, hj⟩ | ⟨hn, hj⟩
      · obtain ⟨i, o, ho, e1, e2⟩ := tpairs_mem _ _ _ hq
        have hi : i < offs.toList.length := (List.getElem?_eq_some_iff.mp ho).1
        have hxi : x.toInt = lo + i := by
          rw [hxq, e1]
          exact iN_small (by omega) (by omega)
        have h0 := b2 o (List.mem_of_getElem? ho)
        refine lv_tableIn (off := o) (tgt := q.2) hx hb hdec (by omega) (by omega) ?_ (by rw [e2]; omega) (hJ _ _ _ _ hj p e s m args below meth c H locs la hC0 hH hS hT1 (tl1 hT2) hl)
        rw [hxi, show (lo + (i : Int) - lo).toNat = i by omega, ← Array.getElem?_toList]
        exact ho
      · refine lv_tableOut hx hb hdec ?_ (by omega) (hJ _ _ _ _ hj p e s m args below meth c H locs la hC0 hH hS hT1 (tl1 hT2) hl)
        by_cases h1 : x.toInt < lo
        · exact Or.inl h1
        · by_cases h2 : hi < x.toInt
          · exact Or.inr h2
          · exfalso
            obtain ⟨tg, ht⟩ := tpairs_all (pc := pc) offs.toList lo (x.toInt - lo).toNat (by omega)
            refine hn _ ht ?_
            simp only
            rw [show lo + (((x.toInt - lo).toNat : Nat) : Int) = x.toInt by omega, iN_toInt]
    · exact h.elim
  | lookupswitch df ps =>
    simp only [wpX] at h
    simp only [okX, Bool.and_eq_true, decide_eq_true_eq, List.all_eq_true] at hX
    obtain ⟨b1, b2, b3⟩ := hX
    have b3' : (ps.toList.zip (ps.toList.drop 1)).all (fun (a, next) => a.1 < next.1) = true := List.all_eq_true.mpr (fun x hx => decide_eq_true (b3 x hx))
    split at h
    · rename_i x dx t
      have hrg : ∀ q ∈ ps.toList, -1000 ≤ q.1 ∧ q.1 ≤ 1000 := fun q hq => ⟨(b2 q hq).2.1, (b2 q hq).2.2⟩
      rcases swP_spec _ _ h with ⟨q, hq, hxq, hj⟩ | ⟨hn, hj⟩
      · obtain ⟨o, h1, h2, a, h3⟩ := lpairs_hit (df := df) ps.toList hrg b3' q hq hxq
        have h0 := (b2 _ h3).1
        exact lv_lookup (tgt := q.2) hx hb hdec b3' h1 (by rw [h2]; simp only at h0; omega) (hJ _ _ _ _ hj p e s m args below meth c H locs la hC0 hH hS hT1 (tl1 hT2) hl)
      · exact lv_lookup hx hb hdec b3' (lpairs_off ps.toList hrg hn) (by omega) (hJ _ _ _ _ hj p e s m args below meth c H locs la hC0 hH hS hT1 (tl1 hT2) hl)
    · exact h.elim
  | ireturn =>
    have hl3 : len = 1 := of_decide_eq_true hlen
    subst hl3
    simp only [wpX] at h
    split at h
    · rename_i x dx
      simp only [wRetI] at h
      split at h
      · rename_i hret
        rw [hret] at hr
        exact W.iret hx hb hr (fun t ht hW => ⟨⟨(.int x, 0), M, h, by simp only [Qr, hret, rk]; exact ⟨x, rfl, rfl⟩, by rw [ht]; exact hH⟩, hS.F ht⟩) hS.2.2 hdec
      · rename_i hret
        rw [hret] at hr
        refine W.zret (ty := .boolean) hx hb hr ?_ (fun t ht hW => ⟨⟨(.int x, 0), M, h.2, by simp only [Qr, hret, rk]; exact ⟨x, rfl, rfl⟩, by rw [ht]; exact hH⟩, hS.F ht⟩) hS.2.2 hdec
        rcases h.1 with h0 | h0 <;> (rw [h0]; decide +kernel)
      · exact h.elim
    · exact h.elim
  | lreturn =>
    have hl3 : len = 1 := of_decide_eq_true hlen
    subst hl3
    simp only [wpX] at h
    split at h
    · rename_i x dx
      split at h
      · rename_i hret
        have hret2 : mi.2.2.2.1 = some .long := by
          revert hret
          generalize mi.2.2.2.1 = rr
          intro hret
          match rr, hret with
          | some .long, _ => rfl
        exact W.lret hx hb (by rw [hr, hret2]) (fun t ht hW => ⟨⟨(.long x, 0), M, h, by simp only [Qr, hret]; exact ⟨x, rfl, rfl⟩, by rw [ht]; exact hH⟩, hS.F ht⟩) hS.2.2 hdec
      · exact h.elim
    · exact h.elim
  | areturn =>
    have hl3 : len = 1 := of_decide_eq_true hlen
    subst hl3
    simp only [wpX] at h
    split at h
    · rename_i x
      split at h
      · rename_i hret
        have hret2 : ∃ rt, mi.2.2.2.1 = some rt ∧ ((∃ n, rt = .object n) ∨ ∃ t, rt = .array t) := by
          revert hret
          generalize mi.2.2.2.1 = rr
          intro hret
          match rr, hret with
          | some (.object n), _ => exact ⟨_, rfl, Or.inl ⟨n, rfl⟩⟩
          | some (.array t), _ => exact ⟨_, rfl, Or.inr ⟨t, rfl⟩⟩
        obtain ⟨rt, h1, h2⟩ := hret2
        have hx9 : x < 9 := by
          rcases hT2 _ List.mem_cons_self with h9 | h9
          · exact h9.2
          · exact absurd rfl h9.1
        exact W.aret (v := .ref (eK E x)) hx hb (by rw [hr, h1]) h2 (Or.inr ⟨_, rfl⟩) (fun t ht hW => ⟨⟨(.ref x, 999), M, h, by simp only [Qr, hret]; exact ⟨x, rfl, hx9, rfl⟩, by rw [ht]; exact hH⟩, hS.F ht⟩) hS.2.2 hdec
      · exact h.elim
    · exact h.elim
  | return_ =>
    have hl3 : len = 1 := of_decide_eq_true hlen
    subst hl3
    simp only [wpX] at h
    split at h
    · split at h
      · rename_i hret
        have hret2 : mi.2.2.2.1 = none := by
          revert hret
          generalize mi.2.2.2.1 = rr
          intro hret
          cases rr with
          | none => rfl
          | some t => cases t <;> cases hret
        exact W.vret hx hb (by rw [hr, hret2]) (fun t ht hW => ⟨⟨(.null, 0), M, h, by simp only [Qr, hret], by rw [ht]; exact hH⟩, hS.F ht⟩) hS.2.2 hdec
      · exact h.elim
    · exact h.elim
  | invokestatic i =>
    have hl3 : len = 3 := of_decide_eq_true hlen
    subst hl3
    simp only [wpX] at h
    simp only [okX] at hX
    split at h
    · rename_i hk3
      rw [if_pos hk3] at hX
      split at h
      · rename_i P t M' hw
        exact cpy_ok hC0 hd hdec hX hw (wCpy_cs hw) hH hS hT2 (andL_True h) hl.1 (fun H' locs' hH' hS' hT' => hnx _ _ _ (andL_app _ h) p e s m args below meth c H' locs' la hC0 hH' hS' hT1 hT' hl)
      · exact h.elim
    · rename_i hk3
      rw [if_neg hk3] at hX
      simp only [Bool.and_eq_true, decide_eq_true_eq] at hX
      split at h
      · rename_i hk0
        unfold wCall at h
        split at h
        · rename_i hc
          have hst : st = ((st.take cal.2.2.2.2.1).reverse).reverse ++ st.drop cal.2.2.2.2.1 := by rw [List.reverse_reverse, List.take_append_drop]
          rw [hst]
          exact callS_ok (dc := d - 1) ⟨hx, hb, hml, hown, hts⟩ hKK hDX hbs h hX.1 hk0 hX.2 ⟨by show d - 1 + 1 ≤ d; omega, by show 64 * (d - 1 + 1) ≤ 64 * d; omega⟩ (by rw [List.length_reverse, List.length_take]; omega) (fun v hv => hT2 v (List.mem_of_mem_take (List.mem_reverse.mp hv))) (fun v hv => hT2 v (List.mem_of_mem_drop hv)) hH hS hl.1 hc.2 hdec ⟨Nat.zero_le _, Nat.zero_le _⟩
            (fun r M' hK' H' locs' hH' hS' hT' => hnx _ _ _ hK' p e s m args below meth c H' locs' la hC0 hH' hS' hT1 hT' hl)
        · exact h.elim
      · exact h.elim
  | invokevirtual i =>
    have hl3 : len = 3 := of_decide_eq_true hlen
    subst hl3
    simp only [wpX] at h
    simp only [okX, Bool.and_eq_true, decide_eq_true_eq] at hX
    split at h
    · rename_i hrec
      unfold wCall at h
      split at h
      · rename_i hc
        unfold recvOK at hrec
        split at hrec
        · rename_i r0 dd0 hget
          have hlt : cal.2.2.2.2.1 < st.length := by omega
          have hdrop : st.drop cal.2.2.2.2.1 = (.ref r0, dd0) :: st.drop (cal.2.2.2.2.1 + 1) := by
            rw [List.drop_eq_getElem_cons hlt]
            congr 1
            rw [List.getElem?_eq_getElem hlt] at hget
            exact Option.some.inj hget
          have htake : (st.take (cal.2.2.2.2.1 + 1)).reverse = (.ref r0, dd0) :: (st.take cal.2.2.2.2.1).reverse := by
            rw [List.take_add_one, hget]
            simp
          have hst : st = ((st.take cal.2.2.2.2.1).reverse).reverse ++ (.ref r0, dd0) :: st.drop (cal.2.2.2.2.1 + 1) := by rw [List.reverse_reverse, ← hdrop, List.take_append_drop]
          rw [htake] at h
          rw [hst]
          exact callV_ok (dc := d - 1) ⟨hx, hb, hml, hown, hts⟩ hKK hDX hbs h hX.1 (of_decide_eq_true hrec) hX.2 ⟨by show d - 1 + 1 ≤ d; omega, by show 64 * (d - 1 + 1) ≤ 64 * d; omega⟩ (by rw [List.length_reverse, List.length_take]; omega) (fun v hv => hT2 v (List.mem_of_mem_take (by rw [← htake] at hv; exact List.mem_reverse.mp hv))) (fun v hv => hT2 v (List.mem_of_mem_drop hv)) hH hS hl.1 hc.2 hdec ⟨Nat.zero_le _, Nat.zero_le _⟩
            (fun r M' hK' H' locs' hH' hS' hT' => hnx _ _ _ hK' p e s m args below meth c H' locs' la hC0 hH' hS' hT1 hT' hl)
        · cases hrec
      · exact h.elim
    · exact h.elim
  | _ => exact h.elim

theorem wpGo_sound {l : Launch} {E : EnvT} {d : Nat} {mi : MI} {K : AV → Mem → Prop} {J : JT} (hd : 1 ≤ d) (hJ : ∀ pc ls st M, J pc ls st M → G l E d mi pc ls st M K) : ∀ (blk : List OpT) (pc : Nat) (ls : LsT) (st : List AV) (M : Mem), okBlk mi pc blk = true → wpGo l E d mi K J blk ls st M → G l E d mi pc ls st M K
  | [], _, _, _, _, _, h => h.elim
  | op :: rest, pc, ls, st, M, hok, h => by
    simp only [okBlk, Bool.and_eq_true, decide_eq_true_eq, Bool.or_eq_true] at hok
    obtain ⟨hpc, hok⟩ := hok
    subst hpc
    unfold wpGo at h
    split at h
    · exact hJ _ _ _ _ h
    · rename_i hz
      rcases hok with hok | ⟨hok, hrest⟩
      · exact absurd hok hz
      · have ih := wpGo_sound hd hJ rest (op.1 + op.2.2.1)
        split at h
        · rename_i q hs
          intro p e s m args below meth c H locs la hC hH hS hT1 hT2 hl
          have hok2 := hok
          simp only [okB, Bool.and_eq_true, decide_eq_true_eq] at hok2
          have hnl : op.2.2.1 = ilen op.2.1 := okLen_S hok2.2.1 hs
          exact stepS_ok (ls' := q.1) (st' := q.2) hC hok2.1 hnl hok2.2.2.1 hs hT1 hT2 hl (fun la' hT1' hT2' hl' => ih _ _ _ hrest h p e s m args below meth c H locs la' hC hH hS hT1' hT2' hl')
        · rename_i hs
          split at h
          · rename_i q hc
            intro p e s m args below meth c H locs la hC hH hS hT1 hT2 hl
            have hok2 := hok
            simp only [okB, Bool.and_eq_true, decide_eq_true_eq] at hok2
            have hnl : op.2.2.1 = ilen op.2.1 := okLen_C hok2.2.1 hc
            exact stepC_ok (P := q.1) (st' := q.2.1) (M' := q.2.2) hC hok2.1 hnl hok2.2.2.2.1 hc hH hS hT2 (andL_True h) (fun H' locs' hH' hS' hT2' => ih _ _ _ hrest (andL_app _ h) p e s m args below meth c H' locs' la hC hH' hS' hT1 hT2' hl)
          · exact wpX_ok hd hJ (fun ls st M hn => ih ls st M hrest hn) hok h
def okBt (mi : MI) (Bt : BtT) : Bool := Bt.all (fun b => okBlk mi b.1 b.2.2.2)
theorem bfind_mem {pc : Nat} {r : List Nat × Bool × List OpT} : ∀ {Bt : BtT}, bfind Bt pc = some r → (pc, r) ∈ Bt
  | [], h => by cases h
  | b :: t, h => by
    unfold bfind at h
    split at h
    · rename_i e
      subst e
      cases h
      exact List.mem_cons_self
    · exact List.mem_cons_of_mem _ (bfind_mem h)
theorem wp_sound {l : Launch} {E : EnvT} {d : Nat} {mi : MI} {K : AV → Mem → Prop} {Bt : BtT} (hd : 1 ≤ d) (hok : okBt mi Bt = true) : ∀ (f : Nat) (pc : Nat) (ls : LsT) (st : List AV) (M : Mem), wp l E d mi K Bt f pc ls st M → G l E d mi pc ls st M K
  | 0, _, _, _, _, h => h.elim
  | f + 1, pc, ls, st, M, h => by
    unfold wp at h
    split at h
    · exact h.elim
    · rename_i b hb
      split at h
      · unfold wpCut at h
        split at h
        · rename_i ls' hp
          exact G.pick _ hp h
        · exact h.elim
      · exact wpGo_sound hd (wp_sound hd hok f) b.2.2 pc ls st M (List.all_eq_true.mp hok _ (bfind_mem hb)) h
/-- from the head of a block that is cut -/
theorem G.blk {l : Launch} {E : EnvT} {d : Nat} {mi : MI} {K : AV → Mem → Prop} {Bt : BtT} (f : Nat) {pc : Nat} {ls : LsT} {st : List AV} {M : Mem} (b : List Nat × Bool × List OpT) (hd : 1 ≤ d) (hok : okBt mi Bt = true) (hb : bfind Bt pc = some b) (h : wpGo l E d mi K (wp l E d mi K Bt f) b.2.2 ls st M) : G l E d mi pc ls st M K :=
  wpGo_sound hd (wp_sound hd hok f) b.2.2 pc ls st M (List.all_eq_true.mp hok _ (bfind_mem hb)) h
