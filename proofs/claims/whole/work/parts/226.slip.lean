/-! slip -/
def lsQ (q : Nat → Int) (b : Bool) : Nat → Int := if b = true ∧ 0 < q 2 then fu q 2 (q 2 - 1) else q
def lsI (x : Nat) : Nat → (Nat → Int) → (Nat → Int)
  | 0, q => q
  | i + 1, q => dayP (lsQ (lsI x i q) (decide (x / 2 ^ i % 2 = 1)))
def lsC (x : Nat) : Nat → (Nat → Int) → (Nat → Int)
  | 0, q => q
  | i + 1, q => dayC (lsQ (lsC x i q) (decide (x / 2 ^ i % 2 = 1)))
theorem lsQ_ok {q : Nat → Int} (h : okP q) (b : Bool) : okP (lsQ q b) := by
  unfold lsQ
  split
  · have := h.2.2.1
    exact okP_has h (by omega)
  · exact h
theorem lsQ_congr {q q' : Nat → Int} (h : ∀ k, k < 6 → q k = q' k) (b : Bool) : ∀ k, k < 6 → lsQ q b k = lsQ q' b k := by
  intro k hk
  unfold lsQ
  rw [h 2 (by decide)]
  split
  · unfold fu
    rw [h k hk]
  · exact h k hk
theorem lsC_ok {q : Nat → Int} (h : okP q) (x : Nat) : ∀ i, okP (lsC x i q) := by
  intro i
  induction i with
  | zero => exact h
  | succ i ih => exact dayC_ok (lsQ_ok ih _)
theorem lsI_ok {q : Nat → Int} (h : okP q) (x : Nat) : ∀ i, okP (lsI x i q) := by
  intro i
  induction i with
  | zero => exact h
  | succ i ih => exact dayP_ok (lsQ_ok ih _)
theorem lsC_p {q q' : Nat → Int} (h : ∀ k, k < 6 → q k = q' k) (x : Nat) : ∀ i k, k < 6 → lsC x i q k = lsI x i q' k := by
  intro i
  induction i with
  | zero => exact h
  | succ i ih =>
    intro k hk
    show dayC (lsQ (lsC x i q) _) k = dayP (lsQ (lsI x i q') _) k
    rw [dayC_p hk]
    exact dayP_congr (lsQ_congr ih _) k hk
theorem losing_loop (N x : Nat) (hx : x < 256) {μ : mm} {q : Nat → Int} (hq : okP q) (c n : Nat) (hc : c ≠ 43) (hn : n ≤ 7) : ∀ (k i : Nat), i ≤ n → n < i + k → L4_throughLosing_22 N k (n : Int) (x : Int) c (i : Int) (putC μ 43 (lsC x i q)) = some (lsC x n q 4 - μ c 4, putC μ 43 (lsC x n q)) := by
  intro k
  induction k with
  | zero => intro i h1 h2; omega
  | succ k ih =>
    intro i h1 h2
    have ok := lsC_ok hq x i
    have es : ∀ y, putC μ 43 (lsC x i q) 43 y = lsC x i q y := fun y => congrFun putC_s y
    have nx := ih (i + 1)
    rw [L4_throughLosing_22, if_pos (show inR (i : Int) ∧ inR (n : Int) by omega)]
    by_cases d : (n : Int) ≤ (i : Int)
    · rw [if_pos d, es, show putC μ 43 (lsC x i q) c 4 = μ c 4 from congrFun (putC_row hc) 4, show i = n by omega]
    · rw [if_neg d, if_pos (show inR (x : Int) ∧ 0 ≤ (i : Int) ∧ (i : Int) < 32 by omega)]
      simp only [bitZ_nat, es, bnd, J4_throughLosing_61]
      have h2' := ok.2.2.1
      rw [if_pos (show inR ((x / 2 ^ i % 2 : Nat) : Int) by omega), if_pos (show inR (lsC x i q 2) by omega)]
      have mk : mu (putC μ 43 (lsC x i q)) 43 2 (lsC x i q 2 - 1) = putC μ 43 (fu (lsC x i q) 2 (lsC x i q 2 - 1)) := by
        funext a b
        unfold mu putC fu
        by_cases ha : a = 43
        · subst ha
          by_cases hb : b = 2
          · subst hb
            rw [if_pos ⟨rfl, rfl⟩, if_pos rfl, if_pos rfl]
          · rw [if_neg (fun z => hb z.2), if_pos rfl, if_pos rfl, if_neg hb]
        · rw [if_neg (fun z => ha z.1), if_neg ha, if_neg ha]
      have dy : ∀ T : Nat → Int, okP T → M2_oneDay N 43 (putC μ 43 T) = some (dgone T, putC μ 43 (dayC T)) := by
        intro T hT
        rw [M2_oneDay_eq N 43 (by rw [putC_s]; exact hT), putC_s, putC_putC]
      by_cases b : x / 2 ^ i % 2 = 1
      · rw [if_pos (show ((x / 2 ^ i % 2 : Nat) : Int) = 1 by omega)]
        by_cases z : lsC x i q 2 ≤ 0
        · rw [if_pos z, dy _ ok, Option.bind_some]
          have e : lsC x (i + 1) q = dayC (lsC x i q) := by
            show dayC (lsQ (lsC x i q) _) = _
            unfold lsQ
            rw [if_neg (fun y => by have := y.2; omega)]
          rw [e] at nx
          exact nx (by omega) (by omega)
        · have okf : okP (fu (lsC x i q) 2 (lsC x i q 2 - 1)) := okP_has ok (by omega)
          rw [if_neg z, mk, dy _ okf, Option.bind_some]
          have e : lsC x (i + 1) q = dayC (fu (lsC x i q) 2 (lsC x i q 2 - 1)) := by
            show dayC (lsQ (lsC x i q) _) = _
            unfold lsQ
            rw [if_pos ⟨decide_eq_true b, by omega⟩]
          rw [e] at nx
          exact nx (by omega) (by omega)
      · rw [if_neg (show ¬ ((x / 2 ^ i % 2 : Nat) : Int) = 1 by omega), dy _ ok, Option.bind_some]
        have e : lsC x (i + 1) q = dayC (lsC x i q) := by
          show dayC (lsQ (lsC x i q) _) = _
          unfold lsQ
          rw [if_neg (fun y => b (of_decide_eq_true y.1))]
        rw [e] at nx
        exact nx (by omega) (by omega)
theorem M4_losing_eq (N x : Nat) (hN : 10 ≤ N) (hx : x < 256) {μ : mm} {p : Nat} (hp : p < 8) (h : okP (μ (10 + 2 + p))) (n : Nat) (hn : n ≤ 7) : ∃ T : Nat → Int, M4_throughLosing N (p : Int) (n : Int) (x : Int) μ = some (lsI x n (μ (10 + 2 + p)) 4 - μ (10 + 2 + p) 4, putC μ 43 T) := by
  have hT : okP (trialQ μ (10 + 2 + p) (μ (10 + 2 + p) 2)) := trialQ_ok h h.2.2.1
  refine ⟨lsC x n (trialQ μ (10 + 2 + p) (μ (10 + 2 + p) 2)), ?_⟩
  unfold M4_throughLosing
  rw [M1_at_eq N 10 p hp, Option.bind_some, if_pos (kdo (Or.inl rfl) hp), M2_takeFrom_eq N (by omega), Option.bind_some, tkP_putC, ← lsC_p trialQ_p x n 4 (by decide)]
  exact losing_loop N x hx hT (10 + 2 + p) n (by omega) hn N 0 (by omega) (by omega)
theorem power_loop (N : Nat) (a : Int) (n : Nat) (hn : n ≤ 100) (μ : mm) : ∀ k i : Nat, i ≤ n → n < i + k → L4_power_5 N k a (n : Int) (a ^ i) (i : Int) μ = some (a ^ n) := by
  intro k
  induction k with
  | zero => intro i h1 h2; omega
  | succ k ih =>
    intro i h1 h2
    rw [L4_power_5, if_pos (show inR (i : Int) ∧ inR (n : Int) by omega)]
    by_cases c : (n : Int) ≤ (i : Int)
    · rw [if_pos c, show i = n by omega]
    · rw [if_neg c]
      simp only [bnd]
      rw [← Int.pow_succ]
      exact ih (i + 1) (by omega) (by omega)
theorem M4_power_eq (N : Nat) (hN : 200 ≤ N) (a : Int) (n : Nat) (hn : n ≤ 100) (μ : mm) : M4_power N a (n : Int) μ = some (a ^ n) := by
  have := power_loop N a n hn μ N 0 (by omega) (by omega)
  rw [Int.pow_zero] at this
  exact this
theorem bsN_le (x : Nat) : ∀ i, bsN x i ≤ i := by
  intro i
  induction i with
  | zero => exact Nat.le_refl _
  | succ i ih =>
    show bsN x i + x / 2 ^ i % 2 ≤ i + 1
    omega
theorem bsN_all : ∀ n, n < 8 → ∀ x, x < 2 ^ n → bsN x 8 = bsN x n := by decide +kernel
