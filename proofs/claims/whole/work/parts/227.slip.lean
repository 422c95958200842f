def thL (q : Nat → Int) (n x : Nat) : Int := lsI x n q 4 - q 4
/-- the chances of one way: no slip on each day told by a place of x -/
def prN (a : Int) (x : Nat) : Nat → Int
  | 0 => 1
  | i + 1 => prN a x i * (if x / 2 ^ i % 2 = 1 then 1 else a)
theorem prN_eq (a : Int) (x : Nat) : ∀ i, prN a x i = a ^ (i - bsN x i) := by
  intro i
  induction i with
  | zero =>
    show (1 : Int) = a ^ (0 - 0)
    rw [Nat.sub_self, Int.pow_zero]
  | succ i ih =>
    have hb := bsN_le x i
    show prN a x i * (if x / 2 ^ i % 2 = 1 then 1 else a) = a ^ (i + 1 - (bsN x i + x / 2 ^ i % 2))
    rw [ih]
    by_cases c : x / 2 ^ i % 2 = 1
    · rw [if_pos c, c, Int.mul_one, show i + 1 - (bsN x i + 1) = i - bsN x i by omega]
    · rw [if_neg c, show x / 2 ^ i % 2 = 0 by omega, show i + 1 - (bsN x i + 0) = (i - bsN x i) + 1 by omega, Int.pow_succ]
theorem pow_in {a : Int} (ha : 0 ≤ a ∧ a ≤ 19) {m : Nat} (hm : m ≤ 7) : 0 ≤ a ^ m ∧ a ^ m ≤ 893871739 := by
  obtain ⟨b, rfl⟩ := Int.eq_ofNat_of_zero_le ha.1
  have h1 : b ^ m ≤ 19 ^ m := Nat.pow_le_pow_left (by omega) m
  have h2 : 19 ^ m ≤ 19 ^ 7 := Nat.pow_le_pow_right (by decide) hm
  have h3 : (19 : Nat) ^ 7 = 893871739 := by decide
  have e : ((b : Int)) ^ m = ((b ^ m : Nat) : Int) := (Int.natCast_pow b m).symm
  rw [e]
  omega
/-- all the ways that bring him through v times, of the first x -/
def wyN (q : Nat → Int) (n : Nat) (a v : Int) : Nat → Int
  | 0 => 0
  | x + 1 => wyN q n a v x + (if thL q n x < v then 0 else prN a x n)
theorem wyN_in (q : Nat → Int) {n : Nat} (hn : n ≤ 7) {a : Int} (ha : 0 ≤ a ∧ a ≤ 19) (v : Int) : ∀ x : Nat, 0 ≤ wyN q n a v x ∧ wyN q n a v x ≤ 893871739 * (x : Int) := by
  intro x
  induction x with
  | zero => exact ⟨Int.le_refl _, Int.le_refl _⟩
  | succ x ih =>
    have p : 0 ≤ prN a x n ∧ prN a x n ≤ 893871739 := by
      rw [prN_eq]
      exact pow_in ha (by omega)
    unfold wyN
    split <;> omega
theorem slip4 (N : Nat) (hN : 200 ≤ N) {μ : mm} {p : Nat} (hp : p < 8) (h : okP (μ (10 + 2 + p))) (n : Nat) (hn : n ≤ 7) {t v w : Int} (ht : 2 ≤ t ∧ t ≤ 20) (hv : 0 ≤ v ∧ v ≤ 9) (r : Int) (hr : ∀ ν : mm, M4_leastTerms N (wyN (μ (10 + 2 + p)) n (t - 1) v (2 ^ n)) (t ^ n) w ν = some r) :
    ∀ (k x : Nat) (ν : mm), x ≤ 2 ^ n → 2 ^ n < x + k → (∀ a, a ≠ 43 → ν a = μ a) → ∃ ν', L4_slip_99 N k (p : Int) (n : Int) t v w (wyN (μ (10 + 2 + p)) n (t - 1) v x) (x : Int) ν = some (r, ν') ∧ ∀ a, a ≠ 43 → ν' a = μ a := by
  have hP : 2 ^ n ≤ 2 ^ 7 := Nat.pow_le_pow_right (by decide) hn
  have h7 : (2 : Nat) ^ 7 = 128 := by decide
  have eP : (1 * 2 ^ ((n : Nat) : Int).toNat : Int) = ((2 ^ n : Nat) : Int) := by
    rw [Int.one_mul, Int.natCast_pow]
    rfl
  intro k
  induction k with
  | zero => intro x ν h1 h2; omega
  | succ k ih =>
    intro x ν h1 h2 hf
    rw [L4_slip_99, if_pos (show 0 ≤ (n : Int) ∧ (n : Int) < 32 by omega), eP, if_pos (show inR (x : Int) ∧ inR ((2 ^ n : Nat) : Int) by omega)]
    by_cases c : ((2 ^ n : Nat) : Int) ≤ (x : Int)
    · rw [if_pos c, if_pos (show inR t by omega), M4_power_eq N hN t n (by omega), Option.bind_some, show x = 2 ^ n by omega, hr ν, Option.bind_some]
      exact ⟨ν, rfl, hf⟩
    · have ec := hf (10 + 2 + p) (by omega)
      have hx : x < 2 ^ n := by omega
      have hb := bsN_le x n
      obtain ⟨T, e⟩ := M4_losing_eq N x (by omega) (by omega) (μ := ν) hp (by rw [ec]; exact h) n hn
      rw [ec] at e
      have hD := (lsI_ok h x n).2.2.2.2.1
      have h4 := h.2.2.2.2.1
      have ez : zpop (x : Int) = ((bsN x n : Nat) : Int) := by rw [zpop_all x (by omega), bsN_all n (by omega) x hx]
      have fr : ∀ a, a ≠ 43 → putC ν 43 T a = μ a := fun a h => (putC_row h).trans (hf a h)
      rw [if_neg c, e, Option.bind_some]
      dsimp only
      rw [if_pos (show inR (lsI x n (μ (10 + 2 + p)) 4 - μ (10 + 2 + p) 4) ∧ inR v by omega), if_pos (show inR (t - 1) by omega), M6_bits_eq N x (by omega), Option.bind_some, ez, show ((n : Int) - ((bsN x n : Nat) : Int)) = ((n - bsN x n : Nat) : Int) by omega, M4_power_eq N hN _ _ (by omega), Option.bind_some]
      simp only [J4_slip_139, bnd]
      obtain ⟨ν', e', f'⟩ := ih (x + 1) (putC ν 43 T) (by omega) (by omega) fr
      rw [show wyN (μ (10 + 2 + p)) n (t - 1) v (x + 1) = wyN (μ (10 + 2 + p)) n (t - 1) v x + (if lsI x n (μ (10 + 2 + p)) 4 - μ (10 + 2 + p) 4 < v then 0 else prN (t - 1) x n) from rfl] at e'
      by_cases d : lsI x n (μ (10 + 2 + p)) 4 - μ (10 + 2 + p) 4 < v
      · rw [if_pos d]
        rw [if_pos d, Int.add_zero] at e'
        exact ⟨ν', e', f'⟩
      · rw [if_neg d]
        rw [if_neg d, prN_eq] at e'
        exact ⟨ν', e', f'⟩
theorem total_loop (N : Nat) (n : Nat) (hn : n ≤ 7) {t : Int} (ht : 2 ≤ t ∧ t ≤ 20) (p v w x6 : Int) (μ : mm) : ∀ k i : Nat, i ≤ n → n < i + k → L5_slip_87 N k p (n : Int) t v w x6 (t ^ i) (i : Int) μ = L5_slip_109 N N p (n : Int) t v w x6 (t ^ n) 0 μ := by
  intro k
  induction k with
  | zero => intro i h1 h2; omega
  | succ k ih =>
    intro i h1 h2
    rw [L5_slip_87, if_pos (show inR (i : Int) ∧ inR (n : Int) by omega)]
    by_cases c : (n : Int) ≤ (i : Int)
    · rw [if_pos c, show i = n by omega]
    · rw [if_neg c, if_pos (show inR t by omega)]
      simp only [bnd]
      rw [← Int.pow_succ]
      exact ih (i + 1) (by omega) (by omega)
