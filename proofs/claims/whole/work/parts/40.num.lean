theorem iN_add (a b : Int) : iN a + iN b = iN (a + b) := (Int32.ofInt_add a b).symm
theorem iN_sub (a b : Int) : iN a - iN b = iN (a - b) := (Int32.ofInt_sub a b).symm
theorem iN_mul (a b : Int) : iN a * iN b = iN (a * b) := (Int32.ofInt_mul a b).symm
theorem iN_neg (a : Int) : -iN a = iN (-a) := (Int32.ofInt_neg a).symm
theorem iN_lt {a b : Int} (h1 : -2147483648 ≤ a) (h2 : a < 2147483648) (h3 : -2147483648 ≤ b) (h4 : b < 2147483648) : iN a < iN b ↔ a < b := by
  rw [Int32.lt_iff_toInt_lt, iN_small h1 h2, iN_small h3 h4]
theorem iN_le {a b : Int} (h1 : -2147483648 ≤ a) (h2 : a < 2147483648) (h3 : -2147483648 ≤ b) (h4 : b < 2147483648) : iN a ≤ iN b ↔ a ≤ b := by
  rw [Int32.le_iff_toInt_le, iN_small h1 h2, iN_small h3 h4]
theorem iN_eq {a b : Int} (h1 : -2147483648 ≤ a) (h2 : a < 2147483648) (h3 : -2147483648 ≤ b) (h4 : b < 2147483648) : iN a = iN b ↔ a = b := by
  rw [← Int32.toInt_inj, iN_small h1 h2, iN_small h3 h4]
theorem iN_lt0 {a : Int} (h1 : -2147483648 ≤ a) (h2 : a < 2147483648) : iN a < 0 ↔ a < 0 := iN_lt (b := 0) h1 h2 (by decide) (by decide)
theorem iN_0lt {a : Int} (h1 : -2147483648 ≤ a) (h2 : a < 2147483648) : 0 < iN a ↔ 0 < a := iN_lt (a := 0) (by decide) (by decide) h1 h2
theorem iN_le0 {a : Int} (h1 : -2147483648 ≤ a) (h2 : a < 2147483648) : iN a ≤ 0 ↔ a ≤ 0 := iN_le (b := 0) h1 h2 (by decide) (by decide)
theorem iN_0le {a : Int} (h1 : -2147483648 ≤ a) (h2 : a < 2147483648) : 0 ≤ iN a ↔ 0 ≤ a := iN_le (a := 0) (by decide) (by decide) h1 h2
theorem iN_eq0 {a : Int} (h1 : -2147483648 ≤ a) (h2 : a < 2147483648) : iN a = 0 ↔ a = 0 := iN_eq (b := 0) h1 h2 (by decide) (by decide)
theorem iN_eq1 {a : Int} (h1 : -2147483648 ≤ a) (h2 : a < 2147483648) : iN a = 1 ↔ a = 1 := iN_eq (b := 1) h1 h2 (by decide) (by decide)
theorem iN_toI {a : Int} (h1 : -2147483648 ≤ a) (h2 : a < 2147483648) : (iN a).toInt = a := iN_small h1 h2
theorem iN_cl {a : Int} (h2 : a < 2147483648) (h1 : 0 ≤ a) : (iN a).toNatClampNeg = a.toNat := by
  show (iN a).toInt.toNat = a.toNat
  rw [iN_small (by omega) h2]
theorem iN_clN {k : Nat} (h : (k : Int) < 2147483648) : (iN (k : Int)).toNatClampNeg = k := by
  rw [iN_cl h (by omega)]
  rfl
theorem iN_in {a : Int} {n : Nat} (h1 : 0 ≤ a) (h2 : a < n) (hn : n ≤ 10000) : vp_in (iN a) n := by
  rw [vp_in_iff, iN_small (by omega) (by omega)]
  exact ⟨h1, h2⟩
theorem iN_ex (x : Int32) : ∃ z : Int, -2147483648 ≤ z ∧ z < 2147483648 ∧ x = iN z := ⟨x.toInt, Int32.le_toInt x, Int32.toInt_lt x, (iN_toInt x).symm⟩
theorem tdiv_nn {a b : Int} (h1 : 0 ≤ a) : a.tdiv b = a / b := Int.tdiv_eq_ediv_of_nonneg h1
theorem iN_div {a b : Int} (h1 : 0 ≤ a) (h2 : a < 2147483648) (h3 : 0 < b) (h4 : b < 2147483648) : iN a / iN b = iN (a / b) := by
  rw [← Int32.toInt_inj, Int32.toInt_div, iN_small (by omega) h2, iN_small (by omega) h4, tdiv_nn h1]
  have h5 : 0 ≤ a / b := Int.ediv_nonneg h1 (by omega)
  have h6 : a / b ≤ a := Int.ediv_le_self b h1
  rw [iN_small (by omega) (by omega)]
  have h7 : (2 : Int) ^ 32 = 4294967296 := by decide
  have h8 : (2 : Nat) ^ 32 = 4294967296 := by decide
  rw [h8]
  exact Int.bmod_eq_of_le (by omega) (by omega)
theorem iN_rem {a b : Int} (h1 : 0 ≤ a) (h2 : a < 2147483648) (h3 : 0 < b) (h4 : b < 2147483648) : iR (iN a) (iN b) = iN (a % b) := by
  unfold iR
  rw [iN_div h1 h2 h3 h4, iN_mul, iN_sub]
  congr 1
  have := Int.emod_add_mul_ediv a b
  rw [Int.mul_comm]
  omega
theorem dn {P : Nat → Prop} (n : Nat) (he : P n) (hs : ∀ k, k < n → P (k + 1) → P k) : ∀ k, k ≤ n → P k := by
  intro k hk
  obtain ⟨m, rfl⟩ : ∃ m, n = k + m := ⟨n - k, by omega⟩
  induction m generalizing k with
  | zero => exact he
  | succ m ih =>
    refine hs k (by omega) (ih (k + 1) ?_ (fun j hj hp => hs j (by omega) hp) (by omega))
    rw [show k + 1 + m = k + (m + 1) by omega]; exact he
def b2i (b : Bool) : Int := if b then 1 else 0
def cntN (p : Nat → Bool) : Nat → Int
  | 0 => 0
  | k + 1 => cntN p k + b2i (p k)
def sumN (f : Nat → Int) : Nat → Int
  | 0 => 0
  | k + 1 => sumN f k + f k
/-- the first place from i on, below i + m, where p holds; -1 without one -/
def fndF (p : Nat → Bool) : Nat → Nat → Int
  | _, 0 => -1
  | i, m + 1 => if p i then (i : Int) else fndF p (i + 1) m
def fnd (p : Nat → Bool) (n : Nat) : Int := fndF p 0 n
abbrev Ch : Type := Nat → Nat → Int
def setR (M : Mem) (r : Nat) (C : Ch) : Mem := fun r' => if r' = r then C else M r'
def upd2 (C : Ch) (c k : Nat) (v : Int) : Ch := fun c' k' => if c' = c ∧ k' = k then v else C c' k'
theorem upd3_setR (M : Mem) (r c k : Nat) (v : Int) : upd3 M r c k v = setR M r (upd2 (M r) c k v) := by
  funext r' c' k'
  unfold upd3 setR upd2
  by_cases h : r' = r
  · subst h; simp
  · simp [h]
theorem setR_same (M : Mem) (r : Nat) (C : Ch) : setR M r C r = C := by simp [setR]
theorem setR_ne (M : Mem) {r r' : Nat} (C : Ch) (h : r' ≠ r) : setR M r C r' = M r' := by simp [setR, h]
theorem setR_setR (M : Mem) (r : Nat) (C C' : Ch) : setR (setR M r C) r C' = setR M r C' := by
  funext r'
  unfold setR
  split <;> rfl
theorem setR_self (M : Mem) (r : Nat) : setR M r (M r) = M := by
  funext r'
  unfold setR
  split
  · rename_i h; rw [h]
  · rfl
theorem upd2_same (C : Ch) (c k : Nat) (v : Int) : upd2 C c k v c k = v := by simp [upd2]
theorem upd2_k (C : Ch) {c k k' : Nat} (v : Int) (h : k' ≠ k) : upd2 C c k v c k' = C c k' := by simp [upd2, h]
theorem upd2_c (C : Ch) {c c' k : Nat} (v : Int) (h : c' ≠ c) : upd2 C c k v c' = C c' := by
  funext k'
  simp [upd2, h]
theorem upd2_at (C : Ch) (c k : Nat) (v : Int) (k' : Nat) : upd2 C c k v c k' = if k' = k then v else C c k' := by simp [upd2]
theorem toI_int (x : Int32) (n : Nat) : toI (.int x, n) = x := rfl
theorem toL_long (x : Int64) (n : Nat) : toL (.long x, n) = x := rfl
theorem toR_ref (x : Nat) (n : Nat) : toR (.ref x, n) = x := rfl
