def n_Mod : MI := (⟨"FalseNotesModel", "<init>", "()V"⟩, prog_13_method_1_code, 1, none, 0, 0, 11, [])
def bMod : List Value := [.null, .null, .int 0, .long 0, .long 0, .null, .null, .null, .null, .null, .int 0, .int 0, .int 0, .int 0, .int 0, .int 0, .int 0, .int 0, .int 0, .int 0, .int 0, .int 0, .null, .int 0, .int 0, .null, .null, .int 0, .int 0, .null, .null, .null, .int 0, .int 0]
def wMod (k : Nat → ClassId) (b : Nat → Nat) : va_W := [(b 0, .inr (11, [.ref (b 1), .ref (b 2), .int 0, .long 0, .long 1, .ref (b 3), .ref (b 4), .ref (b 5), .ref (b 6), .ref (b 7), .int 0, .int 0, .int 0, .int 0, .int 0, .int 0, .int (-1), .int (-1), .int 0, .int 0, .int 0, .int 0, .ref (b 8), .int 0, .int 0, .ref (b 9), .ref (b 10), .int 0, .int 0, .ref (b 11), .ref (b 12), .ref (b 13), .int 0, .int 0])), (b 1, .inl (k 0, 3612, .inl (fun _ => 0))), (b 2, .inl (k 1, 48, .inr (.inl (fun _ => 0)))), (b 3, .inl (k 0, 4, .inl (fun _ => 0))), (b 4, .inl (k 0, 4, .inl (fun j => iN (if j < 4 then -1 else 0)))), (b 5, .inl (k 1, 240, .inr (.inl (fun _ => 0)))), (b 6, .inl (k 2, 900, .inl (fun _ => 0))), (b 7, .inl (k 2, 900, .inl (fun _ => 0))), (b 8, .inl (k 0, 3, .inl (fun _ => 0))), (b 9, .inl (k 0, 256, .inl (fun _ => 0))), (b 10, .inl (k 0, 8, .inl (fun _ => 0))), (b 11, .inl (k 0, 80, .inl (fun _ => 0))), (b 12, .inl (k 0, 5, .inl (fun _ => 0))), (b 13, .inl (k 0, 5, .inl (fun _ => 0)))]
theorem f_Mod : ∀ j, j < 34 → defaultValue (clTy 11 j) = vp_V bMod j := by decide +kernel
theorem up4i : upd (upd (upd (upd (fun _ => 0) 0 (-1)) 1 (-1)) 2 (-1)) 3 (-1) = fun j => iN (if j < 4 then -1 else 0) := by
  funext j
  match j with
  | 0 => rfl
  | 1 => rfl
  | 2 => rfl
  | 3 => rfl
  | n + 4 =>
    rw [if_neg (by omega)]
    simp [upd]
    rfl
def eAf (u : (Nat → Nat → Nat) × (Nat → Nat → Nat)) (b : Nat → Nat) : Nat → Nat → Nat := fun r => match r with
  | 0 => u.1 0
  | 1 => u.1 1
  | 2 => (fun c => match c with | 0 => u.1 1 1 | _ => u.1 1 2)
  | 3 => u.1 2
  | 4 => (fun c => match c with | 0 => u.1 2 2 | _ => u.1 2 3)
  | 5 => u.2 0
  | 6 => u.2 1
  | 7 => u.2 2
  | 8 => u.2 3
  | 9 => u.2 4
  | 10 => u.2 5
  | 11 => u.2 6
  | 12 => u.1 3
  | 13 => u.1 4
  | 14 => u.1 5
  | 15 => u.1 6
  | 16 => u.1 7
  | 17 => u.1 8
  | 18 => u.1 9
  | 19 => u.1 10
  | 20 => u.1 11
  | 21 => u.1 12
  | 22 => u.1 13
  | 23 => u.1 14
  | _ => b
def mkE (D : va_G) (k : Nat → ClassId) (eK eV : Nat → Nat) (B : Nat) (u : (Nat → Nat → Nat) × (Nat → Nat → Nat)) (b : Nat → Nat) : EnvT := (D, eAf u b, k, eK, eV, B)
def fnC0 : Nat → Int := fun j => match j with
  | 9 => 16
  | 10 => 17
  | 11 => 18
  | 12 => 19
  | 15 => 1
  | 17 => -1
  | 18 => -1
  | _ => 0
def tokC (r : Int) : Ch := fun c => match c with
  | 0 => (fun j => match j with | 0 => r | 8 => -1 | _ => 0)
  | _ => fun _ => 0
def trayC : Ch := fun c => match c with
  | 0 => (fun j => match j with | 2 => -1 | _ => 0)
  | _ => fun _ => 0
def Z0 : Ch := fun c => match c with
  | 0 => (fun j => match j with | 4 => 1 | 16 => -1 | 17 => -1 | _ => 0)
  | 4 => fun j => if j < 4 then -1 else 0
  | _ => fun _ => 0
/-- the memory behind both constructors, before plain(0) -/
def M0 : Mem := fun r => match r with
  | 0 => (fun c => match c with | 0 => fnC0 | _ => fun _ => 0)
  | 2 => tokC 2
  | 4 => tokC 4
  | 20 => trayC
  | 21 => trayC
  | 22 => trayC
  | 23 => trayC
  | 24 => Z0
  | _ => fun _ _ => 0
def fWL (E : EnvT) : Nat × Nat → Nat × va_E := fun q => (al E q.1 q.2, cellOf E M0 q.1 q.2)
theorem CL_cut : CL = [(0, 0), (0, 1), (0, 2)] ++ ([(1, 3), (2, 4), (2, 5)] ++ ([(3, 6), (3, 7), (4, 4), (4, 5)] ++ ([(5, 8), (5, 9), (5, 10)] ++ ([(6, 11), (6, 12), (6, 13), (6, 14), (6, 15), (6, 16), (6, 17), (6, 18), (6, 19), (6, 20), (6, 21), (6, 22)] ++ ([(7, 23), (7, 24), (7, 25), (7, 26), (7, 27), (7, 28), (7, 29)] ++ ([(8, 11), (8, 12), (8, 13), (8, 14), (8, 15), (8, 16), (8, 17), (8, 18), (8, 19), (8, 20), (8, 21), (8, 22)] ++ ([(9, 23), (9, 24), (9, 25), (9, 26), (9, 27), (9, 28), (9, 29)] ++ ([(10, 11), (10, 12), (10, 13), (10, 14), (10, 15), (10, 16), (10, 17), (10, 18), (10, 19), (10, 20), (10, 21), (10, 22)] ++ ([(11, 23), (11, 24), (11, 25), (11, 26), (11, 27), (11, 28), (11, 29)] ++ ([(12, 30), (12, 31), (12, 32), (12, 33), (12, 34), (12, 35), (12, 36)] ++ ([(13, 37), (13, 38)] ++ ([(14, 37), (14, 38)] ++ ([(15, 11), (15, 12), (15, 13), (15, 14), (15, 15), (15, 16), (15, 17), (15, 18), (15, 19), (15, 20), (15, 21), (15, 22)] ++ ([(16, 11), (16, 12), (16, 13), (16, 14), (16, 15), (16, 16), (16, 17), (16, 18), (16, 19), (16, 20), (16, 21), (16, 22)] ++ ([(17, 11), (17, 12), (17, 13), (17, 14), (17, 15), (17, 16), (17, 17), (17, 18), (17, 19), (17, 20), (17, 21), (17, 22)] ++ ([(18, 23), (18, 24), (18, 25), (18, 26), (18, 27), (18, 28), (18, 29)] ++ ([(19, 23), (19, 24), (19, 25), (19, 26), (19, 27), (19, 28), (19, 29)] ++ ([(20, 39), (20, 40)] ++ ([(21, 39), (21, 40)] ++ ([(22, 39), (22, 40)] ++ ([(23, 39), (23, 40)] ++ ([(24, 41), (24, 42), (24, 43), (24, 44), (24, 45), (24, 46), (24, 47), (24, 48), (24, 49), (24, 50), (24, 51), (24, 52), (24, 53), (24, 54)])))))))))))))))))))))) := by decide +kernel
theorem e_CR {D : va_G} {k : Nat → ClassId} {eK eV : Nat → Nat} {B : Nat} {u : (Nat → Nat → Nat) × (Nat → Nat → Nat)} {b : Nat → Nat} : List.map (fWL (mkE D k eK eV B u b)) [(1, 3), (2, 4), (2, 5)] = wCR k (u.1 1) := rfl
theorem e_YR {D : va_G} {k : Nat → ClassId} {eK eV : Nat → Nat} {B : Nat} {u : (Nat → Nat → Nat) × (Nat → Nat → Nat)} {b : Nat → Nat} : List.map (fWL (mkE D k eK eV B u b)) [(3, 6), (3, 7), (4, 4), (4, 5)] = wYR k (u.1 2) := rfl
theorem e_r6 {D : va_G} {k : Nat → ClassId} {eK eV : Nat → Nat} {B : Nat} {u : (Nat → Nat → Nat) × (Nat → Nat → Nat)} {b : Nat → Nat} : List.map (fWL (mkE D k eK eV B u b)) [(6, 11), (6, 12), (6, 13), (6, 14), (6, 15), (6, 16), (6, 17), (6, 18), (6, 19), (6, 20), (6, 21), (6, 22)] = wCh k (u.2 1) := rfl
theorem e_r7 {D : va_G} {k : Nat → ClassId} {eK eV : Nat → Nat} {B : Nat} {u : (Nat → Nat → Nat) × (Nat → Nat → Nat)} {b : Nat → Nat} : List.map (fWL (mkE D k eK eV B u b)) [(7, 23), (7, 24), (7, 25), (7, 26), (7, 27), (7, 28), (7, 29)] = wYr k (u.2 2) := rfl
theorem e_r8 {D : va_G} {k : Nat → ClassId} {eK eV : Nat → Nat} {B : Nat} {u : (Nat → Nat → Nat) × (Nat → Nat → Nat)} {b : Nat → Nat} : List.map (fWL (mkE D k eK eV B u b)) [(8, 11), (8, 12), (8, 13), (8, 14), (8, 15), (8, 16), (8, 17), (8, 18), (8, 19), (8, 20), (8, 21), (8, 22)] = wCh k (u.2 3) := rfl
theorem e_r9 {D : va_G} {k : Nat → ClassId} {eK eV : Nat → Nat} {B : Nat} {u : (Nat → Nat → Nat) × (Nat → Nat → Nat)} {b : Nat → Nat} : List.map (fWL (mkE D k eK eV B u b)) [(9, 23), (9, 24), (9, 25), (9, 26), (9, 27), (9, 28), (9, 29)] = wYr k (u.2 4) := rfl
theorem e_r10 {D : va_G} {k : Nat → ClassId} {eK eV : Nat → Nat} {B : Nat} {u : (Nat → Nat → Nat) × (Nat → Nat → Nat)} {b : Nat → Nat} : List.map (fWL (mkE D k eK eV B u b)) [(10, 11), (10, 12), (10, 13), (10, 14), (10, 15), (10, 16), (10, 17), (10, 18), (10, 19), (10, 20), (10, 21), (10, 22)] = wCh k (u.2 5) := rfl
theorem e_r11 {D : va_G} {k : Nat → ClassId} {eK eV : Nat → Nat} {B : Nat} {u : (Nat → Nat → Nat) × (Nat → Nat → Nat)} {b : Nat → Nat} : List.map (fWL (mkE D k eK eV B u b)) [(11, 23), (11, 24), (11, 25), (11, 26), (11, 27), (11, 28), (11, 29)] = wYr k (u.2 6) := rfl
theorem e_r12 {D : va_G} {k : Nat → ClassId} {eK eV : Nat → Nat} {B : Nat} {u : (Nat → Nat → Nat) × (Nat → Nat → Nat)} {b : Nat → Nat} : List.map (fWL (mkE D k eK eV B u b)) [(12, 30), (12, 31), (12, 32), (12, 33), (12, 34), (12, 35), (12, 36)] = wTies k (u.1 3) := rfl
theorem e_r13 {D : va_G} {k : Nat → ClassId} {eK eV : Nat → Nat} {B : Nat} {u : (Nat → Nat → Nat) × (Nat → Nat → Nat)} {b : Nat → Nat} : List.map (fWL (mkE D k eK eV B u b)) [(13, 37), (13, 38)] = wLife k (u.1 4) := rfl
theorem e_r14 {D : va_G} {k : Nat → ClassId} {eK eV : Nat → Nat} {B : Nat} {u : (Nat → Nat → Nat) × (Nat → Nat → Nat)} {b : Nat → Nat} : List.map (fWL (mkE D k eK eV B u b)) [(14, 37), (14, 38)] = wLife k (u.1 5) := rfl
theorem e_r15 {D : va_G} {k : Nat → ClassId} {eK eV : Nat → Nat} {B : Nat} {u : (Nat → Nat → Nat) × (Nat → Nat → Nat)} {b : Nat → Nat} : List.map (fWL (mkE D k eK eV B u b)) [(15, 11), (15, 12), (15, 13), (15, 14), (15, 15), (15, 16), (15, 17), (15, 18), (15, 19), (15, 20), (15, 21), (15, 22)] = wCh k (u.1 6) := rfl
theorem e_r16 {D : va_G} {k : Nat → ClassId} {eK eV : Nat → Nat} {B : Nat} {u : (Nat → Nat → Nat) × (Nat → Nat → Nat)} {b : Nat → Nat} : List.map (fWL (mkE D k eK eV B u b)) [(16, 11), (16, 12), (16, 13), (16, 14), (16, 15), (16, 16), (16, 17), (16, 18), (16, 19), (16, 20), (16, 21), (16, 22)] = wCh k (u.1 7) := rfl
theorem e_r17 {D : va_G} {k : Nat → ClassId} {eK eV : Nat → Nat} {B : Nat} {u : (Nat → Nat → Nat) × (Nat → Nat → Nat)} {b : Nat → Nat} : List.map (fWL (mkE D k eK eV B u b)) [(17, 11), (17, 12), (17, 13), (17, 14), (17, 15), (17, 16), (17, 17), (17, 18), (17, 19), (17, 20), (17, 21), (17, 22)] = wCh k (u.1 8) := rfl
theorem e_r18 {D : va_G} {k : Nat → ClassId} {eK eV : Nat → Nat} {B : Nat} {u : (Nat → Nat → Nat) × (Nat → Nat → Nat)} {b : Nat → Nat} : List.map (fWL (mkE D k eK eV B u b)) [(18, 23), (18, 24), (18, 25), (18, 26), (18, 27), (18, 28), (18, 29)] = wYr k (u.1 9) := rfl
theorem e_r19 {D : va_G} {k : Nat → ClassId} {eK eV : Nat → Nat} {B : Nat} {u : (Nat → Nat → Nat) × (Nat → Nat → Nat)} {b : Nat → Nat} : List.map (fWL (mkE D k eK eV B u b)) [(19, 23), (19, 24), (19, 25), (19, 26), (19, 27), (19, 28), (19, 29)] = wYr k (u.1 10) := rfl
theorem e_r20 {D : va_G} {k : Nat → ClassId} {eK eV : Nat → Nat} {B : Nat} {u : (Nat → Nat → Nat) × (Nat → Nat → Nat)} {b : Nat → Nat} : List.map (fWL (mkE D k eK eV B u b)) [(20, 39), (20, 40)] = wTray k (u.1 11) := rfl
theorem e_r21 {D : va_G} {k : Nat → ClassId} {eK eV : Nat → Nat} {B : Nat} {u : (Nat → Nat → Nat) × (Nat → Nat → Nat)} {b : Nat → Nat} : List.map (fWL (mkE D k eK eV B u b)) [(21, 39), (21, 40)] = wTray k (u.1 12) := rfl
theorem e_r22 {D : va_G} {k : Nat → ClassId} {eK eV : Nat → Nat} {B : Nat} {u : (Nat → Nat → Nat) × (Nat → Nat → Nat)} {b : Nat → Nat} : List.map (fWL (mkE D k eK eV B u b)) [(22, 39), (22, 40)] = wTray k (u.1 13) := rfl
theorem e_r23 {D : va_G} {k : Nat → ClassId} {eK eV : Nat → Nat} {B : Nat} {u : (Nat → Nat → Nat) × (Nat → Nat → Nat)} {b : Nat → Nat} : List.map (fWL (mkE D k eK eV B u b)) [(23, 39), (23, 40)] = wTray k (u.1 14) := rfl
theorem rf4 {β : Type} (g : β → Nat) (x y z w : β) : (fun j : Nat => (([x, y, z, w] : List β)[j]?).map g) = fun j => ([g x, g y, g z, g w] : List Nat)[j]? := by
  funext j
  rw [← List.getElem?_map]
  rfl
theorem rf3 {β : Type} (g : β → Nat) (x y z : β) : (fun j : Nat => (([x, y, z] : List β)[j]?).map g) = fun j => ([g x, g y, g z] : List Nat)[j]? := by
  funext j
  rw [← List.getElem?_map]
  rfl
theorem e_h0 {D : va_G} {k : Nat → ClassId} {eK eV : Nat → Nat} {B : Nat} {u : (Nat → Nat → Nat) × (Nat → Nat → Nat)} {b : Nat → Nat} : List.map (fWL (mkE D k eK eV B u b)) [(0, 0), (0, 1), (0, 2)] = [(u.1 0 0, .inr (10, [.ref (u.1 0 1), .ref (u.1 0 2), .ref (u.1 1 0), .ref (u.1 2 0), .ref (u.2 0 0), .ref (u.1 3 0), .ref (u.1 4 0), .ref (u.1 5 0), .ref (u.1 6 0), .ref (u.1 7 0), .ref (u.1 8 0), .ref (u.1 9 0), .ref (u.1 10 0), .int 0, .long 0, .long 1, .int 0, .int (-1), .int (-1)])), (u.1 0 1, .inl (k 3, 4, .inr (.inr (.inr (.inr (fun j => ([u.1 11 0, u.1 12 0, u.1 13 0, u.1 14 0] : List Nat)[j]?)))))), (u.1 0 2, .inl (k 2, 900, .inl (fun _ => 0)))] := by
  show ([_, (_, .inl (_, _, .inr (.inr (.inr (.inr (fun j => (([(20, 39), (21, 39), (22, 39), (23, 39)] : List (Nat × Nat))[j]?).map (fun q => al (mkE D k eK eV B u b) q.1 q.2))))))), _] : va_W) = _
  rw [rf4]
  rfl
theorem e_h5 {D : va_G} {k : Nat → ClassId} {eK eV : Nat → Nat} {B : Nat} {u : (Nat → Nat → Nat) × (Nat → Nat → Nat)} {b : Nat → Nat} : List.map (fWL (mkE D k eK eV B u b)) [(5, 8), (5, 9), (5, 10)] = [(u.2 0 0, .inr (3, [.ref (u.2 0 1), .ref (u.2 0 2), .int 0])), (u.2 0 1, .inl (k 4, 3, .inr (.inr (.inr (.inr (fun j => ([u.2 1 0, u.2 3 0, u.2 5 0] : List Nat)[j]?)))))), (u.2 0 2, .inl (k 5, 3, .inr (.inr (.inr (.inr (fun j => ([u.2 2 0, u.2 4 0, u.2 6 0] : List Nat)[j]?))))))] := by
  show ([_, (_, .inl (_, _, .inr (.inr (.inr (.inr (fun j => (([(6, 11), (8, 11), (10, 11)] : List (Nat × Nat))[j]?).map (fun q => al (mkE D k eK eV B u b) q.1 q.2))))))), (_, .inl (_, _, .inr (.inr (.inr (.inr (fun j => (([(7, 23), (9, 23), (11, 23)] : List (Nat × Nat))[j]?).map (fun q => al (mkE D k eK eV B u b) q.1 q.2)))))))] : va_W) = _
  rw [rf3, rf3]
  rfl
theorem e_r24 {D : va_G} {k : Nat → ClassId} {eK eV : Nat → Nat} {B : Nat} {u : (Nat → Nat → Nat) × (Nat → Nat → Nat)} {b : Nat → Nat} : List.map (fWL (mkE D k eK eV B u b)) [(24, 41), (24, 42), (24, 43), (24, 44), (24, 45), (24, 46), (24, 47), (24, 48), (24, 49), (24, 50), (24, 51), (24, 52), (24, 53), (24, 54)] = wMod k b := rfl
theorem WL_0 {D : va_G} {k : Nat → ClassId} {eK eV : Nat → Nat} {B : Nat} {u : (Nat → Nat → Nat) × (Nat → Nat → Nat)} {b : Nat → Nat} : WL (mkE D k eK eV B u b) M0 = wFN k u ++ wMod k b := by
  show List.map (fWL (mkE D k eK eV B u b)) CL = _
  rw [CL_cut]
  simp only [List.map_append, e_h0, e_h5, e_r24, e_CR, e_YR, e_r6, e_r7, e_r8, e_r9, e_r10, e_r11, e_r12, e_r13, e_r14, e_r15, e_r16, e_r17, e_r18, e_r19, e_r20, e_r21, e_r22, e_r23]
  simp only [wFN, wMk, List.append_assoc, List.cons_append, List.nil_append]
