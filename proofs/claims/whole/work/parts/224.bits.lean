theorem bit_add : ∀ p, p < 8 → ∀ m, m < 2 ^ p → ∀ j, j < 8 → (m + 2 ^ p) / 2 ^ j % 2 = if j = p then 1 else m / 2 ^ j % 2 := by decide +kernel
def maskN (f : Nat → Bool) : Nat → Nat
  | 0 => 0
  | p + 1 => maskN f p + (if f p then 2 ^ p else 0)
theorem maskN_lt (f : Nat → Bool) : ∀ p, maskN f p < 2 ^ p := by
  intro p
  induction p with
  | zero => exact Nat.one_pos
  | succ p ih =>
    have e : 2 ^ (p + 1) = 2 ^ p * 2 := Nat.pow_succ 2 p
    unfold maskN
    split <;> omega
theorem maskN_bit (f : Nat → Bool) : ∀ p, p ≤ 8 → ∀ j, j < 8 → maskN f p / 2 ^ j % 2 = if j < p ∧ f j = true then 1 else 0 := by
  intro p
  induction p with
  | zero =>
    intro _ j hj
    rw [if_neg (by omega)]
    show 0 / 2 ^ j % 2 = 0
    rw [Nat.zero_div]
  | succ p ih =>
    intro hp j hj
    have a := ih (by omega) j hj
    have b := bit_add p (by omega) (maskN f p) (maskN_lt f p) j hj
    unfold maskN
    by_cases c : f p = true
    · rw [if_pos c, b]
      by_cases d : j = p
      · subst d
        rw [if_pos rfl, if_pos ⟨by omega, c⟩]
      · rw [if_neg d, a]
        by_cases e : j < p ∧ f j = true
        · rw [if_pos e, if_pos ⟨by omega, e.2⟩]
        · rw [if_neg e, if_neg (fun z => e ⟨by omega, z.2⟩)]
    · rw [if_neg c, Nat.add_zero, a]
      by_cases e : j < p ∧ f j = true
      · rw [if_pos e, if_pos ⟨by omega, e.2⟩]
      · rw [if_neg e, if_neg (fun z => e ⟨by
          have : j ≠ p := fun h => c (h ▸ z.2)
          omega, z.2⟩)]
/-- x lies within m, told by places -/
theorem land_sub {x m : Nat} (hx : x < 256) : Nat.land x m = x ↔ ∀ j, j < 8 → x / 2 ^ j % 2 = 1 → m / 2 ^ j % 2 = 1 := by
  constructor
  · intro h j _ h1
    have e : (x &&& m).testBit j = x.testBit j := congrArg (fun z => Nat.testBit z j) h
    rw [Nat.testBit_and, Nat.testBit_eq_decide_div_mod_eq, Nat.testBit_eq_decide_div_mod_eq, h1] at e
    simpa using e
  · intro h
    show x &&& m = x
    refine Nat.eq_of_testBit_eq (fun j => ?_)
    rw [Nat.testBit_and]
    by_cases hj : j < 8
    · rw [Nat.testBit_eq_decide_div_mod_eq, Nat.testBit_eq_decide_div_mod_eq]
      by_cases c : x / 2 ^ j % 2 = 1
      · rw [c, h j hj c]
        rfl
      · simp [c]
    · have : x < 2 ^ j := Nat.lt_of_lt_of_le hx (by
        have : 2 ^ 8 ≤ 2 ^ j := Nat.pow_le_pow_right (by decide) (by omega)
        exact this)
      rw [Nat.testBit_lt_two_pow this, Bool.false_and]
theorem bitZ_nat (x j : Nat) : ((x : Nat) : Int) / 2 ^ ((j : Nat) : Int).toNat % 2 = ((x / 2 ^ j % 2 : Nat) : Int) := by
  show ((x : Nat) : Int) / 2 ^ j % 2 = ((x / 2 ^ j % 2 : Nat) : Int)
  rw [show ((2 : Int) ^ j) = ((2 ^ j : Nat) : Int) from (Int.natCast_pow 2 j).symm]
  rfl
def bsN (x : Nat) : Nat → Nat
  | 0 => 0
  | p + 1 => bsN x p + x / 2 ^ p % 2
theorem bits_loop (N x : Nat) (hx : x < 256) (μ : mm) : ∀ k p, p ≤ 8 → 8 < p + k → L5_bits_4 N k (x : Int) ((bsN x p : Nat) : Int) (p : Int) μ = some ((bsN x 8 : Nat) : Int) := by
  intro k
  induction k with
  | zero => intro p h1 h2; omega
  | succ k ih =>
    intro p h1 h2
    rw [L5_bits_4, if_pos (show inR (p : Int) by omega)]
    by_cases c : 8 ≤ (p : Int)
    · rw [if_pos c, show p = 8 by omega]
    · rw [if_neg c, if_pos (show inR (x : Int) ∧ 0 ≤ (p : Int) ∧ (p : Int) < 32 by omega), bitZ_nat]
      simp only [bnd]
      exact ih (p + 1) (by omega) (by omega)
theorem zpop_all : ∀ x, x < 256 → zpop ((x : Nat) : Int) = ((bsN x 8 : Nat) : Int) := by decide +kernel
theorem M5_bits_eq (N x : Nat) (hN : 10 ≤ N) (hx : x < 256) (μ : mm) : M5_bits N (x : Int) μ = some (zpop (x : Int)) := by
  rw [zpop_all x hx]
  exact bits_loop N x hx μ N 0 (by omega) (by omega)
theorem M6_bits_eq (N x : Nat) (hx : x < 256) (μ : mm) : M6_bitCount_0f7a4 N (x : Int) μ = some (zpop (x : Int)) := by
  unfold M6_bitCount_0f7a4
  rw [if_pos (by omega)]
theorem zpop_in (x : Int) : 0 ≤ zpop x ∧ zpop x ≤ 8 := by unfold zpop; omega
theorem M5_has_eq (N x p : Nat) (hx : x < 256) (hp : p < 8) (μ : mm) : M5_has N (x : Int) (p : Int) μ = some (if x / 2 ^ p % 2 = 1 then 1 else 0) := by
  unfold M5_has
  rw [bitZ_nat, if_pos (show inR (x : Int) ∧ 0 ≤ (p : Int) ∧ (p : Int) < 32 by omega), if_pos (show inR ((x / 2 ^ p % 2 : Nat) : Int) by omega)]
  by_cases c : x / 2 ^ p % 2 = 1
  · rw [if_pos c, if_pos (by omega)]
  · rw [if_neg c, if_neg (by omega)]
/-- what those of a set lack together, of the first p -/
def lkN (f : Nat → Int) (x : Nat) : Nat → Int
  | 0 => 0
  | p + 1 => lkN f x p + (if x / 2 ^ p % 2 = 1 then f p else 0)
theorem lkN_in {f : Nat → Int} (x : Nat) : ∀ p, (∀ i, i < p → 0 ≤ f i ∧ f i ≤ 24) → 0 ≤ lkN f x p ∧ lkN f x p ≤ 24 * (p : Int) := by
  intro p
  induction p with
  | zero => intro _; exact ⟨Int.le_refl _, Int.le_refl _⟩
  | succ p ih =>
    intro h
    have a := ih (fun i hi => h i (by omega))
    have b := h p (by omega)
    unfold lkN
    split <;> omega
theorem M1_lackOf_loop (N : Nat) {o : Nat} (ho : isO o) {ξ : mm} (ok : okO ξ o) (x : Nat) (hx : x < 256) : ∀ k p : Nat, (p : Int) ≤ ξ o 2 → ξ o 2 < (p : Int) + k → L1_lackOf_4 N k o (x : Int) (lkN (fun p => lackZ (ξ (o + 2 + p))) x p) (p : Int) ξ = some (lkN (fun p => lackZ (ξ (o + 2 + p))) x (ξ o 2).toNat) := by
  have hm := ok.1
  intro k
  induction k with
  | zero => intro p h1 h2; omega
  | succ k ih =>
    intro p h1 h2
    rw [L1_lackOf_4, if_pos (show inR (p : Int) ∧ inR (ξ o 2) by omega)]
    by_cases c : ξ o 2 ≤ (p : Int)
    · rw [if_pos c, show (ξ o 2).toNat = p by omega]
    · have hp8 : p < 8 := by omega
      rw [if_neg c, if_pos (show inR (x : Int) ∧ 0 ≤ (p : Int) ∧ (p : Int) < 32 by omega)]
      simp only [bitZ_nat]
      rw [if_pos (show inR ((x / 2 ^ p % 2 : Nat) : Int) by omega), M1_at_eq N o p hp8, Option.bind_some, if_pos (kdO ho hp8), M2_lacking_eq N _ (ok.2.2 p (by omega)), Option.bind_some]
      simp only [J1_lackOf_32, bnd]
      have n := ih (p + 1) (by omega) (by omega)
      rw [show lkN (fun p => lackZ (ξ (o + 2 + p))) x (p + 1) = lkN (fun p => lackZ (ξ (o + 2 + p))) x p + (if x / 2 ^ p % 2 = 1 then lackZ (ξ (o + 2 + p)) else 0) from rfl] at n
      by_cases d : x / 2 ^ p % 2 = 1
      · rw [if_pos (show ((x / 2 ^ p % 2 : Nat) : Int) = 1 by omega)]
        rw [if_pos d] at n
        exact n
      · rw [if_neg (show ¬ ((x / 2 ^ p % 2 : Nat) : Int) = 1 by omega)]
        rw [if_neg d, Int.add_zero] at n
        exact n
theorem M5_lacksOf_loop (N : Nat) {μ : mm} (ok : okR μ 1) (f : Nat → Int) (hf : ∀ p : Nat, (p : Int) < μ 1 0 → f p = lackZ (pq μ 1 p)) (x : Nat) (hx : x < 256) : ∀ k p : Nat, (p : Int) ≤ μ 1 0 → μ 1 0 < (p : Int) + k → L5_lacksOf_4 N k (x : Int) (lkN f x p) (p : Int) μ = some (lkN f x (μ 1 0).toNat) := by
  have hm := ok.1
  intro k
  induction k with
  | zero => intro p h1 h2; omega
  | succ k ih =>
    intro p h1 h2
    rw [L5_lacksOf_4, if_pos (show inR (p : Int) ∧ inR (μ 1 0) by omega)]
    by_cases c : μ 1 0 ≤ (p : Int)
    · rw [if_pos c, show (μ 1 0).toNat = p by omega]
    · have hp8 : p < 8 := by omega
      have eL := M5_lacksIn_eq N 1 p μ hp8 (pq_at μ 1 p) (ok.2.2.2.2 p (by omega))
      rw [show (if pq μ 1 p 3 = 0 then (0 : Int) else max 0 (needsZ (pq μ 1 p 0) (pq μ 1 p 1) - pq μ 1 p 2)) = lackZ (pq μ 1 p) from rfl, ← hf p (by omega)] at eL
      rw [if_neg c, M5_has_eq N x p hx hp8, Option.bind_some, eL, Option.bind_some]
      simp only [J5_lacksOf_35, bnd]
      have n := ih (p + 1) (by omega) (by omega)
      rw [show lkN f x (p + 1) = lkN f x p + (if x / 2 ^ p % 2 = 1 then f p else 0) from rfl] at n
      by_cases d : x / 2 ^ p % 2 = 1
      · rw [if_pos d, if_pos (by decide), if_neg (by decide)]
        rw [if_pos d] at n
        exact n
      · rw [if_neg d, if_pos (by decide), if_pos rfl]
        rw [if_neg d] at n
        exact n
theorem M5_lacking_loop (N : Nat) {μ : mm} (ok : okR μ 1) (f : Nat → Int) (hf : ∀ p : Nat, (p : Int) < μ 1 0 → f p = lackZ (pq μ 1 p)) : ∀ k p : Nat, (p : Int) ≤ μ 1 0 → μ 1 0 < (p : Int) + k → L5_lacking_4 N k ((maskN (fun i => decide (0 < f i)) p : Nat) : Int) (p : Int) μ = some ((maskN (fun i => decide (0 < f i)) (μ 1 0).toNat : Nat) : Int) := by
  have hm := ok.1
  intro k
  induction k with
  | zero => intro p h1 h2; omega
  | succ k ih =>
    intro p h1 h2
    rw [L5_lacking_4, if_pos (show inR (p : Int) ∧ inR (μ 1 0) by omega)]
    by_cases c : μ 1 0 ≤ (p : Int)
    · rw [if_pos c, show (μ 1 0).toNat = p by omega]
    · have hp8 : p < 8 := by omega
      have hq := ok.2.2.2.2 p (by omega)
      have hl := lackZ_in hq
      have eL := M5_lacksIn_eq N 1 p μ hp8 (pq_at μ 1 p) hq
      rw [show (if pq μ 1 p 3 = 0 then (0 : Int) else max 0 (needsZ (pq μ 1 p 0) (pq μ 1 p 1) - pq μ 1 p 2)) = lackZ (pq μ 1 p) from rfl, ← hf p (by omega)] at eL
      rw [← hf p (by omega)] at hl
      have z := zor_bit p hp8 (maskN (fun i => decide (0 < f i)) p) (maskN_lt _ p)
      rw [if_neg c, eL, Option.bind_some, if_pos (show inR (f p) by omega), if_pos (show 0 ≤ (p : Int) ∧ (p : Int) < 32 by omega)]
      simp only [J5_lacking_33, bnd]
      have n := ih (p + 1) (by omega) (by omega)
      rw [show maskN (fun i => decide (0 < f i)) (p + 1) = maskN (fun i => decide (0 < f i)) p + (if decide (0 < f p) = true then 2 ^ p else 0) from rfl] at n
      by_cases d : f p ≤ 0
      · rw [if_pos d, z.2]
        rw [if_neg (by simp; omega), Nat.add_zero] at n
        exact n
      · rw [if_neg d]
        rw [if_pos (by simp; omega)] at n
        show L5_lacking_4 N k (zor ((maskN (fun i => decide (0 < f i)) p : Nat) : Int) (1 * 2 ^ p)) ((p : Int) + 1) μ = _
        rw [z.1]
        exact n
/-- all of a set lack something -/
theorem M1_lackAll_loop (N : Nat) {o : Nat} (ho : isO o) {ξ : mm} (ok : okO ξ o) (x : Nat) (hx : x < 256) : ∀ k p : Nat, (p : Int) ≤ ξ o 2 → ξ o 2 < (p : Int) + k → ∃ r : Int, L1_lackAll_2 N k o (x : Int) (p : Int) ξ = some r ∧ (r = 0 ∨ r = 1) ∧ (r = 1 ↔ ∀ j : Nat, p ≤ j → (j : Int) < ξ o 2 → x / 2 ^ j % 2 = 1 → 0 < lackZ (ξ (o + 2 + j))) := by
  have hm := ok.1
  intro k
  induction k with
  | zero => intro p h1 h2; omega
  | succ k ih =>
    intro p h1 h2
    rw [L1_lackAll_2, if_pos (show inR (p : Int) ∧ inR (ξ o 2) by omega)]
    by_cases c : ξ o 2 ≤ (p : Int)
    · rw [if_pos c]
      exact ⟨1, rfl, Or.inr rfl, fun _ j h1 h2 => by omega, fun _ => rfl⟩
    · have hp8 : p < 8 := by omega
      have hl := lackZ_in (ok.2.2 p (by omega))
      rw [if_neg c, if_pos (show inR (x : Int) ∧ 0 ≤ (p : Int) ∧ (p : Int) < 32 by omega)]
      simp only [bitZ_nat]
      rw [if_pos (show inR ((x / 2 ^ p % 2 : Nat) : Int) by omega), M1_at_eq N o p hp8, Option.bind_some, if_pos (kdO ho hp8), M2_lacking_eq N _ (ok.2.2 p (by omega)), Option.bind_some, if_pos (show inR (lackZ (ξ (o + 2 + p))) by omega)]
      simp only [J1_lackAll_32]
      obtain ⟨r, e, hr, iff⟩ := ih (p + 1) (by omega) (by omega)
      have skip : (x / 2 ^ p % 2 = 1 → 0 < lackZ (ξ (o + 2 + p))) → ∃ r : Int, L1_lackAll_2 N k o (x : Int) ((p : Int) + 1) ξ = some r ∧ (r = 0 ∨ r = 1) ∧ (r = 1 ↔ ∀ j : Nat, p ≤ j → (j : Int) < ξ o 2 → x / 2 ^ j % 2 = 1 → 0 < lackZ (ξ (o + 2 + j))) := by
        intro hpp
        refine ⟨r, e, hr, fun h j h1 h2 h3 => ?_, fun h => iff.mpr (fun j h1 h2 h3 => h j (by omega) h2 h3)⟩
        by_cases t : j = p
        · subst t
          exact hpp h3
        · exact iff.mp h j (by omega) h2 h3
      by_cases d : x / 2 ^ p % 2 = 1
      · rw [if_pos (show ((x / 2 ^ p % 2 : Nat) : Int) = 1 by omega)]
        by_cases g : lackZ (ξ (o + 2 + p)) = 0
        · rw [if_pos g]
          refine ⟨0, rfl, Or.inl rfl, fun h => by omega, fun h => ?_⟩
          have := h p (by omega) (by omega) d
          omega
        · rw [if_neg g]
          exact skip (fun _ => by omega)
      · rw [if_neg (show ¬ ((x / 2 ^ p % 2 : Nat) : Int) = 1 by omega)]
        exact skip (fun h => absurd h d)
