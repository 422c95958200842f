/-! days of a row, copies, sums -/
def days (r : Nat) : Nat → mm → mm
  | 0, μ => μ
  | n + 1, μ => dayR r (days r n μ)
def dayI : Nat → (Nat → Int) → (Nat → Int)
  | 0, q => q
  | n + 1, q => dayP (dayI n q)
theorem dayI_ok {q : Nat → Int} (h : okP q) : ∀ n, okP (dayI n q) := by
  intro n
  induction n with
  | zero => exact h
  | succ n ih => exact dayP_ok ih
theorem dayR_c {r a b : Nat} {μ : mm} (h : a ≠ r) : dayR r μ a b = μ a b := dayN_c h
theorem days_c {r a b : Nat} {μ : mm} (h : a ≠ r) : ∀ n, days r n μ a b = μ a b := by
  intro n
  induction n with
  | zero => rfl
  | succ n ih => exact (dayR_c h).trans ih
theorem days_many (r : Nat) (μ : mm) : ∀ n, days r n μ r 0 = μ r 0 := by
  intro n
  induction n with
  | zero => rfl
  | succ n ih => exact dayN_many.trans ih
theorem days_day (r : Nat) (μ : mm) : ∀ n : Nat, days r n μ r 1 = μ r 1 + (n : Int) := by
  intro n
  induction n with
  | zero => simp [days]
  | succ n ih =>
    show dayN r _ (days r n μ) r 1 = _
    rw [dayN_day, ih]
    omega
theorem days_store (r : Nat) (μ : mm) : ∀ n, days r n μ r 2 = μ r 2 := by
  intro n
  induction n with
  | zero => rfl
  | succ n ih => exact dayN_store.trans ih
theorem days_ok {r : Nat} {μ : mm} (h : okR μ r) : ∀ n : Nat, μ r 1 + (n : Int) ≤ 1000000 → okR (days r n μ) r := by
  intro n
  induction n with
  | zero => intro _; exact h
  | succ n ih =>
    intro hn
    exact dayR_ok (ih (by omega)) (by rw [days_day]; omega)
theorem dayP_congr {q q' : Nat → Int} (h : ∀ k, k < 6 → q k = q' k) : ∀ k, k < 6 → dayP q k = dayP q' k := by
  intro k hk
  have g : goneP q = goneP q' := by unfold goneP; rw [h 0 (by decide), h 1 (by decide), h 2 (by decide)]
  unfold dayP
  rw [h 3 (by decide)]
  by_cases a : q' 3 = 0
  · rw [if_pos a, if_pos a]; exact h k hk
  · rw [if_neg a, if_neg a]
    by_cases b : q' 3 = 1
    · rw [if_pos b, if_pos b]
      unfold meetP
      rw [g, h 0 (by decide), h 1 (by decide), h 2 (by decide), h 4 (by decide), h 5 (by decide), h k hk]
    · rw [if_neg b, if_neg b]
      unfold fu
      rw [h k hk]
theorem dayR_at {r p : Nat} {μ : mm} {q : Nat → Int} (hp : (p : Int) < μ r 0) (h6 : at6 μ r p q) : at6 (dayR r μ) r p (dayP q) := by
  intro k hk
  have a := dayN_at (r := r) (μ := μ) (show p < (μ r 0).toNat by omega) k hk
  exact a.trans (dayP_congr (fun k hk => h6 k hk) k hk)
theorem days_at {r p : Nat} {μ : mm} {q : Nat → Int} (hp : (p : Int) < μ r 0) (h6 : at6 μ r p q) : ∀ n, at6 (days r n μ) r p (dayI n q) := by
  intro n
  induction n with
  | zero => exact h6
  | succ n ih => exact dayR_at (by rw [days_many]; exact hp) ih
theorem days_add (r : Nat) (μ : mm) (m : Nat) : ∀ n, days r n (days r m μ) = days r (m + n) μ := by
  intro n
  induction n with
  | zero => rfl
  | succ n ih => show dayR r (days r n (days r m μ)) = dayR r (days r (m + n) μ); rw [ih]
theorem M5_daysOn_loop (N r : Nat) {μ : mm} (hN : 9 ≤ N) (h : okR μ r) (n : Nat) (hn : μ r 1 + (n : Int) ≤ 1000000) : ∀ (k i : Nat), i ≤ n → n < i + k → L5_daysOn_2 N k r (n : Int) (i : Int) (days r i μ) = some (days r n μ) := by
  intro k
  have hd := h.2.1
  induction k with
  | zero => intro i h1 h2; omega
  | succ k ih =>
    intro i h1 h2
    rw [L5_daysOn_2, if_pos (by omega)]
    by_cases c : (n : Int) ≤ (i : Int)
    · rw [if_pos c, show i = n by omega]
    · rw [if_neg c, M5_day_eq N r hN (days_ok h i (by omega)), Option.bind_some]
      exact ih (i + 1) (by omega) (by omega)
theorem M5_daysOn_eq (N r : Nat) {μ : mm} (hN : 9 ≤ N) (h : okR μ r) (n : Nat) (hn : μ r 1 + (n : Int) ≤ 1000000) (hnN : n < N) : M5_daysOn N r (n : Int) μ = some (days r n μ) :=
  M5_daysOn_loop N r hN h n hn N 0 (Nat.zero_le _) (by omega)
/-- row b becomes row a -/
def cp (a b : Nat) (μ : mm) : mm := fun x y => if x = b ∧ y < 52 then μ a y else μ x y
def cpN (a b n : Nat) (μ : mm) : mm := fun x y => if x = b ∧ y < n then μ a y else μ x y
theorem cpN_step {a b n : Nat} {μ : mm} (hab : a ≠ b) : mu (cpN a b n μ) b n (cpN a b n μ a n) = cpN a b (n + 1) μ := by
  have e : cpN a b n μ a n = μ a n := if_neg (by omega)
  rw [e]
  funext x y
  unfold mu cpN
  by_cases c : x = b ∧ y = n
  · rw [if_pos c, if_pos (by omega), c.2]
  · rw [if_neg c]
    by_cases d : x = b ∧ y < n
    · rw [if_pos d, if_pos (by omega)]
    · rw [if_neg d, if_neg (by omega)]
theorem M5_copies_loop (N a b : Nat) {μ : mm} (hab : a ≠ b) : ∀ (k i : Nat), i ≤ 52 → 52 < i + k → L5_copies_2 N k a b (i : Int) (cpN a b i μ) = some (cp a b μ) := by
  intro k
  induction k with
  | zero => intro i h1 h2; omega
  | succ k ih =>
    intro i h1 h2
    rw [L5_copies_2, if_pos (by omega)]
    by_cases c : 52 ≤ (i : Int)
    · rw [if_pos c, show i = 52 by omega]; rfl
    · rw [if_neg c, if_pos (by omega), if_pos (by omega)]
      simp only [bnd, Int.toNat_natCast]
      rw [cpN_step hab]
      exact ih (i + 1) (by omega) (by omega)
theorem M5_copies_eq (N a b : Nat) {μ : mm} (hN : 53 ≤ N) (hab : a ≠ b) : M5_copies N a b μ = some (cp a b μ) := by
  have := M5_copies_loop N a b (μ := μ) hab N 0 (by omega) (by omega)
  rw [show cpN a b 0 μ = μ from by funext x y; exact if_neg (by omega)] at this
  exact this
theorem cp_to {a b j : Nat} {μ : mm} (h : j < 52) : cp a b μ b j = μ a j := if_pos ⟨rfl, h⟩
theorem cp_c {a b x j : Nat} {μ : mm} (h : x ≠ b) : cp a b μ x j = μ x j := if_neg (by omega)
theorem cp_at {a b p : Nat} {μ : mm} {q : Nat → Int} (hp : p < 8) (h : at6 μ a p q) : at6 (cp a b μ) b p q := fun k hk => (cp_to (by omega)).trans (h k hk)
theorem cp_ok {a b : Nat} {μ : mm} (h : okR μ a) : okR (cp a b μ) b := by
  obtain ⟨h0, h1, h2, h3, hP⟩ := h
  refine ⟨by rw [cp_to (by decide)]; exact h0, by rw [cp_to (by decide)]; exact h1, by rw [cp_to (by decide)]; exact h2, by rw [cp_to (by decide)]; exact h3, fun p hp => ?_⟩
  rw [cp_to (by decide)] at hp
  have hk := hP p hp
  have e : ∀ k, k < 6 → pq (cp a b μ) b p k = pq μ a p k := cp_at (by omega) (pq_at μ a p)
  unfold okP at hk ⊢
  rw [e 0 (by decide), e 1 (by decide), e 2 (by decide), e 3 (by decide), e 4 (by decide), e 5 (by decide)]
  exact hk
/-- f 0 + .. + f (n - 1) -/
def sumN (f : Nat → Int) : Nat → Int
  | 0 => 0
  | n + 1 => sumN f n + f n
theorem sumN_congr {f g : Nat → Int} : ∀ n, (∀ i, i < n → f i = g i) → sumN f n = sumN g n := by
  intro n
  induction n with
  | zero => intro _; rfl
  | succ n ih => intro h; show sumN f n + f n = sumN g n + g n; rw [ih (fun i hi => h i (by omega)), h n (by omega)]
theorem M5_allOf_loop (N r w : Nat) (hw : w ≤ 5) {μ : mm} (hm : 0 ≤ μ r 0 ∧ μ r 0 ≤ 8) : ∀ (k p : Nat), (p : Int) ≤ μ r 0 → μ r 0 < (p : Int) + k → L5_allOf_4 N k r (w : Int) (sumN (fun p => μ r (4 + 6 * p + w)) p) (p : Int) μ = some (sumN (fun p => μ r (4 + 6 * p + w)) (μ r 0).toNat) := by
  intro k
  induction k with
  | zero => intro p h1 h2; omega
  | succ k ih =>
    intro p h1 h2
    rw [L5_allOf_4, if_pos (by omega)]
    by_cases c : μ r 0 ≤ (p : Int)
    · rw [if_pos c, show p = (μ r 0).toNat by omega]
    · rw [if_neg c, if_pos (by omega)]
      simp only [bnd]
      rw [show ((4 + 6 * (p : Int)) + (w : Int)).toNat = 4 + 6 * p + w by omega]
      exact ih (p + 1) (by omega) (by omega)
theorem M5_allOf_eq (N r w : Nat) (hw : w ≤ 5) {μ : mm} (hN : 9 ≤ N) (hm : 0 ≤ μ r 0 ∧ μ r 0 ≤ 8) : M5_allOf N r (w : Int) μ = some (sumN (fun p => μ r (4 + 6 * p + w)) (μ r 0).toNat) := M5_allOf_loop N r w hw hm N 0 (by omega) (by omega)
