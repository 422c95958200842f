/-! MY ROWS (z_): the machine's numbers are told by integers (an int by any integer that it is, modulo 2^32); the world is a memory of numbered cells (mm: cell, slot); a method is tied to a pure partial function of its arguments and the memory. -/
abbrev mm : Type := Nat → Nat → Int
def iO (x : Int) : Int32 := Int32.ofInt x
def lO (x : Int) : Int64 := Int64.ofInt x
abbrev inR (x : Int) : Prop := -2147483648 ≤ x ∧ x ≤ 2147483647
abbrev inL (x : Int) : Prop := -9223372036854775808 ≤ x ∧ x ≤ 9223372036854775807
def mu (μ : mm) (i j : Nat) (v : Int) : mm := fun a b => if a = i ∧ b = j then v else μ a b
def bnd {α β : Type} (v : α) (k : α → β) : β := k v
theorem iO_add (x y : Int) : iO x + iO y = iO (x + y) := (Int32.ofInt_add x y).symm
theorem iO_sub (x y : Int) : iO x - iO y = iO (x - y) := (Int32.ofInt_sub x y).symm
theorem iO_mul (x y : Int) : iO x * iO y = iO (x * y) := (Int32.ofInt_mul x y).symm
theorem iO_neg (x : Int) : - iO x = iO (-x) := (Int32.ofInt_neg x).symm
theorem lO_add (x y : Int) : lO x + lO y = lO (x + y) := (Int64.ofInt_add x y).symm
theorem lO_sub (x y : Int) : lO x - lO y = lO (x - y) := (Int64.ofInt_sub x y).symm
theorem lO_mul (x y : Int) : lO x * lO y = lO (x * y) := (Int64.ofInt_mul x y).symm
theorem iO_toInt {x : Int} (h : inR x) : (iO x).toInt = x := by
  unfold iO
  rw [Int32.toInt_ofInt]
  show Int.bmod x 4294967296 = x
  exact Int.bmod_eq_of_le (by omega) (by omega)
theorem lO_toInt {x : Int} (h : inL x) : (lO x).toInt = x := by
  unfold lO
  rw [Int64.toInt_ofInt]
  show Int.bmod x 18446744073709551616 = x
  exact Int.bmod_eq_of_le (by omega) (by omega)
theorem iO_of (x : Int32) : iO x.toInt = x := Int32.ofInt_toInt x
theorem iO_lt {x y : Int} (hx : inR x) (hy : inR y) : iO x < iO y ↔ x < y := by
  rw [Int32.lt_iff_toInt_lt, iO_toInt hx, iO_toInt hy]
theorem iO_le {x y : Int} (hx : inR x) (hy : inR y) : iO x ≤ iO y ↔ x ≤ y := by
  rw [Int32.le_iff_toInt_le, iO_toInt hx, iO_toInt hy]
theorem iO_eq {x y : Int} (hx : inR x) (hy : inR y) : iO x = iO y ↔ x = y := by
  rw [← Int32.toInt_inj, iO_toInt hx, iO_toInt hy]
theorem lO_lt {x y : Int} (hx : inL x) (hy : inL y) : lO x < lO y ↔ x < y := by
  rw [Int64.lt_iff_toInt_lt, lO_toInt hx, lO_toInt hy]
theorem lO_eq {x y : Int} (hx : inL x) (hy : inL y) : lO x = lO y ↔ x = y := by
  rw [← Int64.toInt_inj, lO_toInt hx, lO_toInt hy]
theorem iO_0 : (0 : Int32) = iO 0 := rfl
theorem lO_0 : (0 : Int64) = lO 0 := rfl
theorem iO_clamp {x : Int} (h : inR x) : (iO x).toNatClampNeg = x.toNat := by
  show (iO x).toInt.toNat = x.toNat
  rw [iO_toInt h]
theorem iO_in {x : Int} {n : Nat} (h0 : 0 ≤ x) (h1 : x < (n : Int)) (hn : n < 2 ^ 31) : vp_in (iO x) n := by
  have hr : inR x := ⟨by omega, by omega⟩
  rw [vp_in_iff, iO_toInt hr]
  exact ⟨h0, h1⟩
theorem z_guard {α : Type} {c : Prop} [Decidable c] {x : Option α} {r : α} (h : (if c then x else none) = some r) : c ∧ x = some r := by
  by_cases hc : c
  · rw [if_pos hc] at h; exact ⟨hc, h⟩
  · rw [if_neg hc] at h; cases h
theorem z_bind {α β : Type} {x : Option α} {f : α → Option β} {r : β} (h : x.bind f = some r) : ∃ a, x = some a ∧ f a = some r := Option.bind_eq_some_iff.mp h
theorem z_bnd {α β : Type} {v : α} {k : α → β} {r : β} (h : bnd v k = r) : ∃ a, a = v ∧ k a = r := ⟨v, rfl, h⟩
theorem mu_s {μ : mm} {i j : Nat} {v : Int} : mu μ i j v i j = v := if_pos ⟨rfl, rfl⟩
theorem mu_c {μ : mm} {i j a b : Nat} {v : Int} (h : a ≠ i) : mu μ i j v a b = μ a b := if_neg fun z => h z.1
theorem mu_j {μ : mm} {i j a b : Nat} {v : Int} (h : b ≠ j) : mu μ i j v a b = μ a b := if_neg fun z => h z.2
