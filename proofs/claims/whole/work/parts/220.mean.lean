/-! least terms; mean -/
theorem zcmp_0 {y : Int} : (zcmp y 0 = 0 ↔ y = 0) ∧ inR (zcmp y 0) := by
  unfold zcmp
  split
  · constructor
    · constructor
      · intro h; omega
      · intro h; omega
    · decide
  · split
    · constructor
      · constructor
        · intro h; omega
        · intro h; omega
      · decide
    · constructor
      · constructor
        · intro h; omega
        · intro h; omega
      · decide
/-- Euclid's two steps halve the second number -/
theorem gcd_both (N : Nat) (x0 x2 x4 : Int) (μ μ' : mm) : ∀ (K k : Nat) (i : Nat) (x y : Int), 0 ≤ x → 0 ≤ y → y < 2 ^ K → inL x → inL y → 2 * K + 2 ≤ k → i + 2 * K ≤ 98 → (0 < x ∨ 0 < y) →
    ∃ d, 0 < d ∧ inL d ∧ L4_leastTerms_25 N k x0 x2 x4 x y (i : Int) μ = J4_leastTerms_60 N x0 x2 x4 d μ ∧ L5_gcd_6 N k x y μ' = some d := by
  intro K
  induction K with
  | zero =>
    intro k i x y hx hy hK lx ly hk hi hp
    obtain ⟨k', rfl⟩ : ∃ k', k = k' + 1 := ⟨k - 1, by omega⟩
    have y0 : y = 0 := by
      have : y < 1 := hK
      omega
    subst y0
    refine ⟨x, by omega, lx, ?_, ?_⟩
    · rw [L4_leastTerms_25, if_pos (show inR (i : Int) from by omega), if_neg (show ¬ 100 ≤ (i : Int) by omega), if_pos ly, if_pos zcmp_0.2, if_pos (zcmp_0.1.mpr rfl)]
    · rw [L5_gcd_6, if_pos ly, if_pos zcmp_0.2, if_pos (zcmp_0.1.mpr rfl)]
  | succ K ih =>
    intro k i x y hx hy hK lx ly hk hi hp
    obtain ⟨k1, rfl⟩ : ∃ k', k = k' + 1 := ⟨k - 1, by omega⟩
    by_cases y0 : y = 0
    · refine ⟨x, by omega, lx, ?_, ?_⟩
      · rw [L4_leastTerms_25, if_pos (show inR (i : Int) from by omega), if_neg (show ¬ 100 ≤ (i : Int) by omega), if_pos ly, if_pos zcmp_0.2, if_pos (zcmp_0.1.mpr y0)]
      · rw [L5_gcd_6, if_pos ly, if_pos zcmp_0.2, if_pos (zcmp_0.1.mpr y0)]
    · have hyp : 0 < y := by omega
      have r0 := Int.emod_nonneg x y0
      have r1 := Int.emod_lt_of_pos x hyp
      have s4 : L4_leastTerms_25 N (k1 + 1) x0 x2 x4 x y (i : Int) μ = L4_leastTerms_25 N k1 x0 x2 x4 y (x % y) ((i : Int) + 1) μ := by
        rw [L4_leastTerms_25, if_pos (show inR (i : Int) from by omega), if_neg (show ¬ 100 ≤ (i : Int) by omega), if_pos ly, if_pos zcmp_0.2, if_neg (fun z => y0 (zcmp_0.1.mp z)), if_pos ⟨hx, hyp, lx, ly⟩]
        rfl
      have s5 : L5_gcd_6 N (k1 + 1) x y μ' = L5_gcd_6 N k1 y (x % y) μ' := by
        rw [L5_gcd_6, if_pos ly, if_pos zcmp_0.2, if_neg (fun z => y0 (zcmp_0.1.mp z)), if_pos ⟨hx, hyp, lx, ly⟩]
        rfl
      rw [s4, s5]
      generalize hr : x % y = r at r0 r1
      obtain ⟨k2, rfl⟩ : ∃ k', k1 = k' + 1 := ⟨k1 - 1, by omega⟩
      by_cases e0 : r = 0
      · refine ⟨y, hyp, ly, ?_, ?_⟩
        · rw [L4_leastTerms_25, if_pos (show inR ((i : Int) + 1) from by omega), if_neg (show ¬ 100 ≤ (i : Int) + 1 by omega), if_pos (show inL r by omega), if_pos zcmp_0.2, if_pos (zcmp_0.1.mpr e0)]
        · rw [L5_gcd_6, if_pos (show inL r by omega), if_pos zcmp_0.2, if_pos (zcmp_0.1.mpr e0)]
      · have hrp : 0 < r := by omega
        have q0 := Int.emod_nonneg y e0
        have q1 := Int.emod_lt_of_pos y hrp
        have qh : 2 * (y % r) < y := by
          have hd := Int.mul_ediv_add_emod y r
          have hq : 1 ≤ y / r := (Int.le_ediv_iff_mul_le hrp).mpr (by omega)
          have hm : r * 1 ≤ r * (y / r) := Int.mul_le_mul_of_nonneg_left hq (by omega)
          omega
        have t4 : L4_leastTerms_25 N (k2 + 1) x0 x2 x4 y r ((i : Int) + 1) μ = L4_leastTerms_25 N k2 x0 x2 x4 r (y % r) (((i + 2 : Nat) : Int)) μ := by
          rw [L4_leastTerms_25, if_pos (show inR ((i : Int) + 1) from by omega), if_neg (show ¬ 100 ≤ (i : Int) + 1 by omega), if_pos (show inL r by omega), if_pos zcmp_0.2, if_neg (fun z => e0 (zcmp_0.1.mp z)), if_pos (show 0 ≤ y ∧ 0 < r ∧ inL y ∧ inL r by omega)]
          rfl
        have t5 : L5_gcd_6 N (k2 + 1) y r μ' = L5_gcd_6 N k2 r (y % r) μ' := by
          rw [L5_gcd_6, if_pos (show inL r by omega), if_pos zcmp_0.2, if_neg (fun z => e0 (zcmp_0.1.mp z)), if_pos (show 0 ≤ y ∧ 0 < r ∧ inL y ∧ inL r by omega)]
          rfl
        rw [t4, t5]
        have hK2 : (2 : Int) ^ (K + 1) = 2 ^ K * 2 := Int.pow_succ 2 K
        exact ih k2 (i + 2) r (y % r) (by omega) q0 (by omega) (by omega) (by omega) (by omega) (by omega) (Or.inl hrp)
/-- the least terms on both sides, of numbers below 2^40 -/
theorem terms_eq (N : Nat) (hN : 200 ≤ N) {a b w : Int} (ha : 0 ≤ a ∧ a < 1099511627776) (hb : 0 < b ∧ b < 1099511627776 ∨ a = 0) (hlb : inL b) (hw : 0 ≤ w ∧ w ≤ 1) (μ μ' : mm) : ∃ r, M4_leastTerms N a b w μ = some r ∧ M5_partOf N a b w μ' = some r := by
  have la : inL a := by omega
  have gw : inR w := by omega
  unfold M4_leastTerms M5_partOf
  rw [if_pos la, if_pos zcmp_0.2, if_pos la, if_pos zcmp_0.2]
  by_cases a0 : a = 0
  · rw [if_pos (zcmp_0.1.mpr a0), if_pos (zcmp_0.1.mpr a0), if_pos gw, if_pos zcmp_0.2]
    exact ⟨w, rfl, rfl⟩
  · have hb' : 0 < b ∧ b < 1099511627776 := by omega
    rw [if_neg (fun z => a0 (zcmp_0.1.mp z)), if_neg (fun z => a0 (zcmp_0.1.mp z)), if_pos hlb, if_pos zcmp_0.2, if_neg (fun z => (show ¬ b = 0 by omega) (zcmp_0.1.mp z)), if_pos gw]
    obtain ⟨d, hd, ld, e4, e5⟩ := gcd_both N a b w μ μ' 40 N 0 a b ha.1 (by omega) (by have : (2 : Int) ^ 40 = 1099511627776 := by decide
                                                                                       omega) la hlb (by omega) (by decide) (Or.inl (by omega))
    rw [show ((0 : Nat) : Int) = 0 from rfl] at e4
    rw [e4]
    simp only [J4_leastTerms_60, J5_partOf_20, M5_gcd]
    rw [e5, if_pos ld, if_pos zcmp_0.2, if_neg (fun z => (show ¬ d = 0 by omega) (zcmp_0.1.mp z)), if_pos gw, Option.bind_some, if_pos (show 0 ≤ a ∧ 0 < d ∧ inL a ∧ inL d by omega), if_pos (show 0 ≤ b ∧ 0 < d ∧ inL b ∧ inL d by omega)]
    by_cases w0 : w = 0
    · rw [if_pos w0, if_pos w0]
      exact ⟨_, rfl, rfl⟩
    · rw [if_neg w0, if_neg w0]
      refine ⟨_, rfl, ?_⟩
      rw [Option.bind_some, if_pos (show 0 ≤ b ∧ 0 < d ∧ inL b ∧ inL d by omega)]
theorem sumN_in {f : Nat → Int} {B : Int} : ∀ n : Nat, (∀ i, i < n → 0 ≤ f i ∧ f i ≤ B) → 0 ≤ sumN f n ∧ sumN f n ≤ (n : Int) * B := by
  intro n
  induction n with
  | zero => intro _; exact ⟨Int.le_refl _, by show (0 : Int) ≤ ((0 : Nat) : Int) * B; rw [show ((0 : Nat) : Int) = 0 from rfl, Int.zero_mul]; exact Int.le_refl _⟩
  | succ n ih =>
    intro h
    have a := ih (fun i hi => h i (by omega))
    have b := h n (by omega)
    have e : ((n + 1 : Nat) : Int) * B = (n : Int) * B + B := by
      rw [show ((n + 1 : Nat) : Int) = (n : Int) + 1 from rfl, Int.add_mul, Int.one_mul]
    show 0 ≤ sumN f n + f n ∧ sumN f n + f n ≤ ((n + 1 : Nat) : Int) * B
    omega
theorem rfw4 (N : Nat) {c : Int} (hc : -6 ≤ c ∧ c ≤ 0) (ν : mm) : ((M4_refused N c ν).bind fun (q7 : (Int × mm)) => if inR q7.1 then (some ((4000000000000000000 - q7.1), q7.2)) else none) = some (4000000000000000000 - c, r4 c ν) := by
  rw [M4_refused_eq N hc, Option.bind_some]
  dsimp only
  rw [if_pos (show inR c from by omega)]
theorem noWide_eq (N : Nat) {c : Int} (hc : -6 ≤ c ∧ c ≤ 0) (ν : mm) : ((M5_noWide N c ν).bind fun (q3 : (Int × mm)) => some (q3.1, q3.2)) = some (4000000000000000000 - c, r5 c ν) := by
  unfold M5_noWide
  rw [M5_no_eq N hc, Option.bind_some]
  dsimp only
  rw [if_pos (show inR c from by omega)]
  rfl
theorem Op_wide (N : Nat) {μ : mm} (R : Rel μ) {c : Int} (hc : -6 ≤ c ∧ c ≤ -1) {f g : mm → Option (Int × mm)} (hf : f μ = some (4000000000000000000 - c, r4 c μ)) (hg : ∀ ν, ν = r4 c μ → g ν = some (4000000000000000000 - c, r5 c ν)) : Op f g μ :=
  ⟨4000000000000000000 - c, r4 c μ, r5 c (r4 c μ), hf, hg _ rfl, Rel_ref R hc⟩
theorem op_mean (N : Nat) (hN : 200 ≤ N) {μ : mm} (R : Rel μ) {w : Int} (hw : inR w) : Op (M4_mean N w) (M5_mean N w) μ := by
  obtain ⟨⟨a1, a2, a3⟩, -⟩ := id R
  have hm := a2.1
  by_cases t : othZ w 1 = 0
  · have tt := othZ_0 t
    have hs : 0 ≤ sumN (fun p => μ 1 (4 + 6 * p + 2)) (μ 1 0).toNat ∧ sumN (fun p => μ 1 (4 + 6 * p + 2)) (μ 1 0).toNat ≤ ((μ 1 0).toNat : Int) * 99 := sumN_in _ (fun i hi => (a2.2.2.2.2 i (by omega)).2.2.1)
    have e2 := M5_allOf_eq N 1 2 (by decide) (by omega) (μ := μ) hm
    rw [show ((2 : Nat) : Int) = 2 from rfl] at e2
    have e4 := M1_allHas_eq N (o := 10) (Or.inl rfl) (by omega) (μ := μ) (by rw [a1.1]; exact hm)
    rw [sum_one a1 2 (by decide)] at e4
    generalize sumN (fun p => μ 1 (4 + 6 * p + 2)) (μ 1 0).toNat = s at hs e2 e4
    obtain ⟨r, f4, f5⟩ := terms_eq N hN (a := s) (b := μ 1 0) (w := w) (by omega) (by omega) (by omega) tt μ μ
    refine ⟨r, μ, μ, ?_, ?_, R⟩
    · simp only [M4_mean]
      rw [M4_other_eq N hw (by decide), Option.bind_some, t, if_pos (by decide), if_pos rfl, e4, Option.bind_some, if_pos (show inR s from by omega), a1.1, if_pos (show inR (μ 1 0) from by omega), f4, Option.bind_some]
    · simp only [M5_mean]
      rw [M5_isIn_eq N hw (by decide) (by decide), Option.bind_some, if_pos tt, if_pos (by decide), if_neg (by decide), e2, Option.bind_some, if_pos (show inR s from by omega), if_pos (show inR (μ 1 0) from by omega), f5, Option.bind_some]
  · obtain ⟨t1, t2⟩ := oth_no t
    refine Op_wide N R (c := -2) (by decide) ?_ (fun ν _ => ?_)
    · simp only [M4_mean]
      rw [M4_other_eq N hw (by decide), Option.bind_some, t1, if_pos (by decide), if_neg (by decide), rfw4 N (by decide)]
    · simp only [M5_mean]
      rw [M5_isIn_eq N hw (by decide) (by decide), Option.bind_some, if_neg t2, if_pos (by decide), if_pos rfl, noWide_eq N (by decide)]
