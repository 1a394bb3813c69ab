def nAnd (x y : Nat) : Nat := x &&& (255 ^^^ y)
theorem one_bit : ∀ s : Nat, s < 8 → (iN 1 <<< (iN (s : Int) &&& 31)) = iN ((2 ^ s : Nat) : Int) := by decide +kernel
theorem ones_n : ∀ n : Nat, n < 9 → (iN 1 <<< (iN (n : Int) &&& 31)) - iN 1 = iN ((2 ^ n - 1 : Nat) : Int) := by decide +kernel
theorem and_not : ∀ x : Nat, x < 256 → ∀ y : Nat, y < 256 → (iN (x : Int) &&& (iN (y : Int) ^^^ iN (-1))) = iN ((nAnd x y : Nat) : Int) := by decide +kernel
theorem or_two : ∀ x : Nat, x < 256 → ∀ y : Nat, y < 256 → (iN (x : Int) ||| iN (y : Int)) = iN ((x ||| y : Nat) : Int) := by decide +kernel
theorem and_one : ∀ x : Nat, x < 256 → ∀ s : Nat, s < 8 → (iN (x : Int) &&& (iN 1 <<< (iN (s : Int) &&& 31))) = iN ((x &&& 2 ^ s : Nat) : Int) := by decide +kernel
