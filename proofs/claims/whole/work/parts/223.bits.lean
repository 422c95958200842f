/-! sets of people as bits -/
def bitZ (x : Int) (i : Nat) : Int := (x / 2 ^ i) % 2
theorem zor_bit : ∀ p, p < 8 → ∀ m, m < 2 ^ p → zor ((m : Nat) : Int) (1 * 2 ^ p) = ((m + 2 ^ p : Nat) : Int) ∧ zor ((m : Nat) : Int) 0 = ((m : Nat) : Int) := by decide +kernel
theorem zand_sub : ∀ x, x < 256 → ∀ m, m < 256 → (zand ((x : Nat) : Int) (zxor ((m : Nat) : Int) (-1)) == 0) = (Nat.land x m == x) := by decide +kernel
