theorem zA_self (M : Mem) : zA M (M 24) (M 24 1) = M := by
  unfold zA
  rw [setC_self, setR_self]
theorem zA_M0 : zA M0 Z0 (fun _ => 0) = M0 := zA_self M0
theorem DX_of {E : EnvT} {M : Mem} (h : va_D (Ab E) (WL E M)) : DX E := by
  have key : ∀ (i : Nat) (p : Nat × va_E), (WL E (fun _ _ _ => 0))[i]? = some p → ∃ p', (WL E M)[i]? = some p' ∧ p'.1 = p.1 := by
    intro i p hp
    rw [WL_at] at hp ⊢
    cases hc : CL[i]? with
    | none => rw [hc] at hp; cases hp
    | some q =>
      rw [hc] at hp
      cases hp
      exact ⟨_, rfl, rfl⟩
  refine ⟨fun i j p q hp hq e => ?_, fun k q hq => ?_⟩
  · obtain ⟨p', h1, e1⟩ := key i p hp
    obtain ⟨q', h2, e2⟩ := key j q hq
    exact h.1 i j p' q' h1 h2 (by rw [e1, e2, e])
  · obtain ⟨q', h2, e2⟩ := key k q hq
    rw [← e2]
    exact h.2 k q' h2
/-- what the reference's constructor starts from: the class's world, and a blank object -/
def PMod (D : va_G) (k : Nat → ClassId) (eK eV : Nat → Nat) (Bd : Nat) (u : (Nat → Nat → Nat) × (Nat → Nat → Nat)) (h0 : Nat) (U : State) : Prop := va_P D vCl (wFN k u ++ [(h0, .inr (11, bMod))]) U.heap ∧ va_D (fun q => Bd ≤ q) (wFN k u ++ [(h0, .inr (11, bMod))]) ∧ KC D k U ∧ KK (mkE D k eK eV Bd u (fun _ => 0)) U ∧ Bd ≤ U.heap.size
def QMod (D : va_G) (k : Nat → ClassId) (eK eV : Nat → Nat) (Bd : Nat) (u : (Nat → Nat → Nat) × (Nat → Nat → Nat)) (h0 : Nat) : Array Value → State → Outcome → State → Prop := fun _ st o t => (∃ (b : Nat → Nat) (A' : Nat → Int), o = .returned none ∧ b 0 = h0 ∧ plA (fun _ => 0) A' 0 ∧ HX (mkE D k eK eV Bd u b) (zA M0 Z0 A') t.heap ∧ DX (mkE D k eK eV Bd u b)) ∧ va_F (fun q => Bd ≤ q) st t
theorem k_ModS {E : EnvT} {h0 : Nat} (h : eA E 24 0 = h0) : ([.int 0, .ref h0] : List Value) = (([(.int (iN ((0 : Nat) : Int)), 0)] : List AV).reverse ++ ((Value.ref 24, 41) : AV) :: []).map (cv E) := by
  subst h
  rfl
theorem k_ModT {l : Launch} {D : va_G} {k : Nat → ClassId} {eK eV : Nat → Nat} {Bd : Nat} {u : (Nat → Nat → Nat) × (Nat → Nat → Nat)} {h0 : Nat} {b : Nat → Nat} {p : Program} {e : Env} {s : State} {m : MethodId} {args : Array Value} {below : List Frame} {meth : Method} {c : Code} {H : Heap} {locs : List Loc} {ls : Array Slot} {R : Room} (hR : 2 ≤ R.frames ∧ 128 ≤ R.locals ∧ 13 ≤ R.cells ∧ 6065 ≤ R.slots)
    (S : CallFix p m c prog_13_method_1_code 1 s args (WS n_Mod) "FalseNotesModel") (hr : meth.sig.returnType = none) (hlocks : meth.locks = false) (hPw : va_P D vCl (wFN k u ++ [(h0, .inr (11, bMod))]) s.heap) (hDw : va_D (fun q => Bd ≤ q) (wFN k u ++ [(h0, .inr (11, bMod))])) (hKK : KK (mkE D k eK eV Bd u b) s) (hbs : Bd ≤ s.heap.size) (hB0 : Bd ≤ h0) (hS : va_S (va_A [(h0, .inr (11, bMod))] s.heap.size) s.heap H locs) (hl : ls.size = 1) (hb0 : b 0 = h0) (hPm : va_P D vCl (wMod k b) H) (hDm : va_D (va_A [(h0, .inr (11, bMod))] s.heap.size) (wMod k b)) :
    W p l e R s m args below meth c H locs 13 6065 (MQ below (QMod D k eK eV Bd u h0) args s 13 6065 (fun q => Bd ≤ q)) (F0 m 141 ls [.int 0, .ref h0]) := by
  have hFc : ∀ x, va_A [(h0, .inr (11, bMod))] s.heap.size x → Bd ≤ x := by
    intro x h
    rcases h with ⟨k2, e2, h⟩ | h
    · have hz : k2 < 1 := (List.getElem?_eq_some_iff.mp h).1
      rw [show k2 = 0 by omega] at h
      have h2 : (h0, Sum.inr (11, bMod)) = (x, e2) := Option.some.inj h
      rw [← show h0 = x from congrArg Prod.fst h2]
      exact hB0
    · omega
  obtain ⟨hP3, hD3⟩ := kj (A0 := fun q => Bd ≤ q) hPw hDw hS.2.1 hFc hPm hDm
  have hH : HX (mkE D k eK eV Bd u b) (zA M0 Z0 (fun _ => 0)) H := by
    rw [zA_M0]
    unfold HX
    rw [WL_0]
    exact hP3
  have hDX : DX (mkE D k eK eV Bd u b) := by
    refine DX_of (M := M0) ?_
    rw [WL_0]
    exact hD3
  have hS2 : va_S (Ab (mkE D k eK eV Bd u b)) s.heap H locs := ⟨hS.1, fun q h1 h2 => hS.2.1 q h1 (fun h => h2 (hFc q h)), fun q hq => hFc _ (hS.2.2 q hq)⟩
  have hM : CT l (mkE D k eK eV Bd u b) 1 m_Mod_plain ((.ref 24, 41) :: [(.int (iN ((0 : Nat) : Int)), 0)]) (zA M0 Z0 (fun _ => 0)) (fun _ M' => ∃ A', plA (fun _ => 0) A' 0 ∧ M' = zA M0 Z0 A') := r_plain (B := 0) (Nat.le_refl _) (Nat.zero_le _) (fun A' h => ⟨A', h, rfl⟩)
  rw [k_ModS (E := mkE D k eK eV Bd u b) (h0 := h0) hb0]
  refine callV_ok (i := 1443) (idx := 62) (rest := []) S hKK hDX hbs hM (by decide +kernel) (Or.inl ⟨rfl, by decide +kernel⟩) (by decide +kernel) ⟨by omega, by omega⟩ rfl ?_ (fun v hv => by cases hv) hH hS2 hl (Nat.zero_le _) (show decode prog_13_method_1_code 141 = .ok (.invokevirtual 62, 3) by decide +kernel) ⟨hR.2.2.1, hR.2.2.2⟩ (fun r M' hKr H' locs' hH' hS3 hT => ?_)
  · intro v hv
    rcases List.mem_cons.mp hv with rfl | hv
    · exact Or.inr ⟨by decide, by decide +kernel⟩
    · rcases List.mem_cons.mp hv with rfl | hv
      · trivial
      · cases hv
  · obtain ⟨A', hA', rfl⟩ := hKr
    exact W.vret S.1 S.2.1 hr (fun t ht hW => ⟨⟨b, A', rfl, hb0, hA', by rw [ht]; exact hH', hDX⟩, hS3.F ht⟩) hS3.2.2 (show decode prog_13_method_1_code 144 = .ok (.return_, 1) by decide +kernel)
