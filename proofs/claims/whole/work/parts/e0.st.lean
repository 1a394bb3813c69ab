def LX : List Cond := flatC (Jvm.Cond.and given_1 narrow_1)
def strT (i : Nat) : Term := .string (STRL.getD i ("", 0, "", 0)).1 (STRL.getD i ("", 0, "", 0)).2.1
def strV (i : Nat) : Term := .field (strT i) "java/lang/String" "value" "[B"
def OFFL : List Nat := [45, 160, 169, 180, 190, 200, 210, 221, 232]
theorem sx_ex : ∀ i, i < 9 → LX[OFFL.getD i 0]? = some (.exactly (strT i) "java/lang/String") := by decide +kernel
theorem sx_co : ∀ i, i < 9 → LX[OFFL.getD i 0 + 1]? = some (.eq (.field (strT i) "java/lang/String" "coder" "B") (.int 0)) := by decide +kernel
theorem sx_ar : ∀ i, i < 9 → LX[OFFL.getD i 0 + 2]? = some (.arrayOf (strV i) .byte) := by decide +kernel
theorem sx_le : ∀ i, i < 9 → LX[OFFL.getD i 0 + 3]? = some (.eq (.length (strV i)) (.int (Int32.ofNat (STRN.getD i 0)))) := by decide +kernel
theorem sx_el : ∀ i, i < 9 → ∀ j, j < STRN.getD i 0 → LX[OFFL.getD i 0 + 4 + j]? = some (.eq (.elem (strV i) (.int (Int32.ofNat j))) (.int ((STRB.getD i []).getD j 0))) := by decide +kernel
theorem sx_ne : ∀ j, j < 9 → ∀ i, i < j → LX[OFFL.getD j 0 + 4 + STRN.getD j 0 + i]? = some (.not (.eq (strT i) (strT j))) := by decide +kernel
theorem sx_n : ∀ i, i < 9 → STRN.getD i 0 < 2 ^ 31 := by decide +kernel
theorem sx_i : ∀ q ∈ STRL, q.2.2.2 < 9 ∧ STRL.getD q.2.2.2 ("", 0, "", 0) = q := by decide +kernel
theorem sx_r : ∀ q ∈ STRL, Cond.stringRef q.1 q.2.1 q.2.2.1 ∈ lw_tbl := by decide +kernel
theorem sx_in : ∀ q ∈ vCl, Cond.instantiable q.1 q.2.2 ∈ lw_tbl := by decide +kernel
theorem sx_nl : ∀ q ∈ NLk, Cond.methodLinkNest q.1 q.2.1 q.2.2 "FalseNotes" ∈ lw_tbl := by decide +kernel
theorem st_A {args : Array Value} {s : State} {ty : FieldType} (h : (Cond.arrayClass ty).before args s = true) : ∃ cA : ClassId, ArrOfT s cA ty ∧ s.vm.findClass ("[" ++ ty.toString) = some cA := by
  obtain ⟨cA, kA, comp, h1, h2, h3⟩ := Cond.arrayClass_spec h
  exact ⟨cA, fun n z => ⟨fun k h => (by cases h), kA, h2, comp, h3⟩, h1⟩
theorem st_O {args : Array Value} {s : State} {C : String} (h : (Cond.arrayOver (.object C)).before args s = true) : ∃ cA : ClassId, ArrOfT s cA (.object C) ∧ va_RA s cA (.object C) := by
  obtain ⟨comp, cA, kA, h1, -, h2, h3, h4⟩ := Cond.arrayOver_spec h
  exact ⟨cA, fun n z => ⟨fun k h => (by cases h), kA, h2, comp, h3⟩, kA, comp, h2, h3, h1, h4⟩
theorem st_D {args : Array Value} {s : State} (d0 : ClassId) (hts : ∀ w ∈ lw_tbl, w.before args s = true) : ∃ D : va_G, ∀ (k : Nat) (q : vw_C), vCl[k]? = some q → u_Kn s q.1 q.2.1 q.2.2 (D.1 k) (D.2 k) := by
  have h0 : ∀ k : Nat, ∃ x : ClassId × (Nat → Nat), ∀ q : vw_C, vCl[k]? = some q → u_Kn s q.1 q.2.1 q.2.2 x.1 x.2 := by
    intro k
    cases hk : vCl[k]? with
    | none => exact ⟨(d0, fun _ => 0), fun q h => by cases h⟩
    | some q =>
      have hm := List.mem_of_getElem? hk
      obtain ⟨cC, iS, h⟩ := u_known (C := q.1) (T := q.2.1) (N := q.2.2) (n := q.2.2) hts (fun w hw => (List.mem_filter.mp (cl_words q hm w hw)).1) (hts _ (sx_in q hm))
      exact ⟨(cC, iS), fun q' h' => by cases h'; exact h⟩
  obtain ⟨f, hf⟩ := Classical.axiomOfChoice h0
  exact ⟨(fun k => (f k).1, fun k => (f k).2), fun k q h => hf k q h⟩
theorem st_KC {args : Array Value} {s : State} (d0 : ClassId) (hts : ∀ w ∈ lw_tbl, w.before args s = true) : ∃ (D : va_G) (k : Nat → ClassId), KC D k s := by
  obtain ⟨D, hD⟩ := st_D d0 hts
  obtain ⟨c0, a0, b0⟩ := st_A (hts (.arrayClass .int) (List.mem_of_getElem? (i := 218) (by decide +kernel)))
  obtain ⟨c1, a1, b1⟩ := st_A (hts (.arrayClass .long) (List.mem_of_getElem? (i := 261) (by decide +kernel)))
  obtain ⟨c2, a2, b2⟩ := st_A (hts (.arrayClass .byte) (List.mem_of_getElem? (i := 190) (by decide +kernel)))
  have o3 := hts (.arrayOver (.object "FalseNotes$Tray")) (List.mem_of_getElem? (i := 133) (by decide +kernel))
  have o4 := hts (.arrayOver (.object "FalseNotes$Choir")) (List.mem_of_getElem? (i := 226) (by decide +kernel))
  have o5 := hts (.arrayOver (.object "FalseNotes$Years")) (List.mem_of_getElem? (i := 228) (by decide +kernel))
  obtain ⟨c3, a3, b3⟩ := st_O o3
  obtain ⟨c4, a4, b4⟩ := st_O o4
  obtain ⟨c5, a5, b5⟩ := st_O o5
  refine ⟨D, fun j => ([c0, c1, c2, c3, c4, c5] : List ClassId).getD j d0, ⟨hD, fun j q hq => ?_⟩, ⟨va_AO.of o3, va_AO.of o4, va_AO.of o5⟩, fun q hq => va_Nw.of rfl (hts _ (sx_nl q hq))⟩
  match j, hq with
  | 0, hq => cases hq; exact ⟨a0, b0⟩
  | 1, hq => cases hq; exact ⟨a1, b1⟩
  | 2, hq => cases hq; exact ⟨a2, b2⟩
  | 3, hq => cases hq; exact ⟨a3, b3⟩
  | 4, hq => cases hq; exact ⟨a4, b4⟩
  | 5, hq => cases hq; exact ⟨a5, b5⟩
  | j + 6, hq => exact absurd (List.getElem?_eq_some_iff.mp hq).1 (by show ¬ j + 6 < 6; omega)
theorem st_KK {args : Array Value} {s : State} {D : va_G} {k : Nat → ClassId} (hts : ∀ w ∈ lw_tbl, w.before args s = true) (hgv : (Jvm.Cond.and given_1 narrow_1).before args s = true) (hK : va_K D vCl (tysK k) s) : ∃ aK aV : Nat → Nat, ∀ u b, KK (mkE D k aK aV s.heap.size u b) s := by
  have hl : ∀ {i : Nat} {w : Cond}, LX[i]? = some w → w.before args s = true := fun h => flat_of_before _ hgv _ (List.mem_of_getElem? h)
  have hA : ∀ a : Nat, a < s.heap.size → ¬ (fun q : Nat => s.heap.size ≤ q) a := fun a ha h => absurd h (by show ¬ s.heap.size ≤ a; omega)
  obtain ⟨aK, aV, hS, hE⟩ := vk_Sof (args := args) (s := s) (N := 9) (tm := strT) (len := STRN) (byt := STRB) (A := fun q : Nat => s.heap.size ≤ q) sx_n (fun i hi => hl (sx_ex i hi)) (fun i hi => hl (sx_co i hi)) (fun i hi => hl (sx_ar i hi)) (fun i hi => hl (sx_le i hi)) (fun i hi j hj => hl (sx_el i hi j hj)) (fun i j hi hj hij => by
    rcases Nat.lt_or_gt_of_ne hij with h | h
    · exact Or.inl (hl (sx_ne j hj i h))
    · exact Or.inr (hl (sx_ne i hi j h))) hA
  have z1 : va_Z "java/lang/String" "COMPACT_STRINGS" "Z" (.int 1) (fun q : Nat => s.heap.size ≤ q) s s.heap := va_Zof (hts _ (List.mem_of_getElem? (i := 679) (by decide +kernel))) (hts _ (List.mem_of_getElem? (i := 119) (by decide +kernel))) (va_eqi (hl (i := 4) (by decide +kernel))) hA
  have z2 : ∃ v : Value, va_Z "jdk/internal/util/Preconditions" "SIOOBE_FORMATTER" "Ljava/util/function/BiFunction;" v (fun q : Nat => s.heap.size ≤ q) s s.heap := by
    have hr := hl (i := 5) (w := .isRef (.static "jdk/internal/util/Preconditions" "SIOOBE_FORMATTER" "Ljava/util/function/BiFunction;")) (by decide +kernel)
    cases hv : (Term.static "jdk/internal/util/Preconditions" "SIOOBE_FORMATTER" "Ljava/util/function/BiFunction;").eval args s none [] s with
    | none => simp [Cond.before, Cond.holds, Cond.value, hv] at hr
    | some v => exact ⟨v, va_Zof (hts _ (List.mem_of_getElem? (i := 695) (by decide +kernel))) (hts _ (List.mem_of_getElem? (i := 121) (by decide +kernel))) hv hA⟩
  refine ⟨aK, aV, fun u b => ⟨hK, hS, ⟨z1, z2⟩, fun q hq => ?_⟩⟩
  obtain ⟨q9, qe⟩ := sx_i q hq
  refine vk_R.of (A := args) (hts _ (sx_r q hq)) ?_
  have := hE _ q9
  unfold strT at this
  rw [qe] at this
  exact this
