/-! a day of the reference's row -/
def pq (μ : mm) (r p : Nat) : Nat → Int := fun k => μ r (4 + 6 * p + k)
theorem pq_at (μ : mm) (r p : Nat) : at6 μ r p (pq μ r p) := fun _ _ => rfl
/-- a row as it must be -/
def okR (μ : mm) (r : Nat) : Prop := (0 ≤ μ r 0 ∧ μ r 0 ≤ 8) ∧ (0 ≤ μ r 1 ∧ μ r 1 ≤ 1000000) ∧ (0 ≤ μ r 2 ∧ μ r 2 ≤ 999) ∧ (0 ≤ μ r 3 ∧ μ r 3 ≤ 9999) ∧ ∀ p : Nat, (p : Int) < μ r 0 → okP (pq μ r p)
def wornU (μ : mm) (r : Nat) : Nat → Int
  | 0 => μ r 3
  | p + 1 => min 9999 (wornU μ r p + dgone (pq μ r p))
/-- the first n people's day -/
def dayN (r n : Nat) (μ : mm) : mm := fun a b => if a = r then (if b = 1 then μ r 1 + 1 else if b = 3 then wornU μ r n else if 4 ≤ b ∧ b < 4 + 6 * n then dayP (pq μ r ((b - 4) / 6)) ((b - 4) % 6) else μ r b) else μ a b
theorem wornU_in {μ : mm} {r : Nat} (h : okR μ r) : ∀ n : Nat, (n : Int) ≤ μ r 0 → 0 ≤ wornU μ r n ∧ wornU μ r n ≤ 9999 := by
  intro n
  induction n with
  | zero => intro _; exact h.2.2.2.1
  | succ n ih =>
    intro hn
    have a := ih (by omega)
    have b := dgone_in (h.2.2.2.2 n (by omega))
    show 0 ≤ min 9999 (wornU μ r n + dgone (pq μ r n)) ∧ min 9999 (wornU μ r n + dgone (pq μ r n)) ≤ 9999
    omega
theorem dayN_0 (r : Nat) (μ : mm) : dayN r 0 μ = mu μ r 1 (μ r 1 + 1) := by
  funext a b
  unfold dayN mu
  by_cases c : a = r
  · subst c
    by_cases d : b = 1
    · subst d; simp
    · by_cases e : b = 3
      · subst e; simp [wornU]
      · rw [if_pos rfl, if_neg d, if_neg e, if_neg (by omega), if_neg (by omega)]
  · rw [if_neg c, if_neg (by omega)]
theorem dayN_at {r n p : Nat} {μ : mm} (h : p < n) : at6 (dayN r n μ) r p (dayP (pq μ r p)) := by
  intro k hk
  unfold dayN
  rw [if_pos rfl, if_neg (by omega), if_neg (by omega), if_pos (by omega), show (4 + 6 * p + k - 4) / 6 = p by omega, show (4 + 6 * p + k - 4) % 6 = k by omega]
theorem dayN_hi {r n p : Nat} {μ : mm} (h : n ≤ p) : at6 (dayN r n μ) r p (pq μ r p) := by
  intro k hk
  unfold dayN
  rw [if_pos rfl, if_neg (by omega), if_neg (by omega), if_neg (by omega)]
  rfl
theorem dayN_many {r n : Nat} {μ : mm} : dayN r n μ r 0 = μ r 0 := by
  unfold dayN
  rw [if_pos rfl, if_neg (by omega), if_neg (by omega), if_neg (by omega)]
theorem dayN_day {r n : Nat} {μ : mm} : dayN r n μ r 1 = μ r 1 + 1 := by
  unfold dayN
  rw [if_pos rfl, if_pos rfl]
theorem dayN_store {r n : Nat} {μ : mm} : dayN r n μ r 2 = μ r 2 := by
  unfold dayN
  rw [if_pos rfl, if_neg (by omega), if_neg (by omega), if_neg (by omega)]
theorem dayN_worn {r n : Nat} {μ : mm} : dayN r n μ r 3 = wornU μ r n := by
  unfold dayN
  rw [if_pos rfl, if_neg (by omega), if_pos rfl]
theorem dayN_c {r n a b : Nat} {μ : mm} (h : a ≠ r) : dayN r n μ a b = μ a b := if_neg h
theorem dayN_step (r p : Nat) (μ : mm) : putP (mu (dayN r p μ) r 3 (min 9999 (wornU μ r p + dgone (pq μ r p)))) r p (dayP (pq μ r p)) = dayN r (p + 1) μ := by
  funext a b
  by_cases c : a = r
  · subst c
    by_cases d : 4 + 6 * p ≤ b ∧ b < 10 + 6 * p
    · unfold putP
      rw [if_pos ⟨rfl, d⟩]
      unfold dayN
      rw [if_pos rfl, if_neg (by omega), if_neg (by omega), if_pos (by omega), show (b - 4) / 6 = p by omega]
      congr 1
      omega
    · unfold putP
      rw [if_neg (by omega)]
      unfold mu
      by_cases e : b = 3
      · subst e
        rw [if_pos ⟨rfl, rfl⟩, dayN_worn]
        rfl
      · rw [if_neg (by omega)]
        unfold dayN
        by_cases f : b = 1
        · rw [if_pos rfl, if_pos f, if_pos rfl, if_pos f]
        · rw [if_pos rfl, if_neg f, if_neg e, if_pos rfl, if_neg f, if_neg e]
          by_cases g : 4 ≤ b ∧ b < 4 + 6 * p
          · rw [if_pos g, if_pos (by omega)]
          · rw [if_neg g, if_neg (by omega)]
  · unfold putP
    rw [if_neg (by omega)]
    unfold mu
    rw [if_neg (by omega), dayN_c c, dayN_c c]
theorem M5_day_loop (N r : Nat) {μ : mm} (h : okR μ r) : ∀ (k p : Nat), (p : Int) ≤ μ r 0 → μ r 0 < (p : Int) + k → L5_day_9 N k r (p : Int) (dayN r p μ) = some (dayN r (μ r 0).toNat μ) := by
  intro k
  induction k with
  | zero => intro p h1 h2; omega
  | succ k ih =>
    intro p h1 h2
    obtain ⟨hm, -, -, -, hP⟩ := id h
    rw [L5_day_9, dayN_many, if_pos (by omega)]
    by_cases c : μ r 0 ≤ (p : Int)
    · rw [if_pos c, show p = (μ r 0).toNat by omega]
    · rw [if_neg c]
      have hp : p < 8 := by omega
      have h6 : at6 (dayN r p μ) r p (pq μ r p) := dayN_hi (Nat.le_refl p)
      have hq := hP p (by omega)
      have hw := wornU_in h p h1
      have hnext : J5_day_55 N (L5_day_9 N k) r (p : Int) (dayN r (p + 1) μ) = some (dayN r (μ r 0).toNat μ) := by
        unfold J5_day_55
        exact ih (p + 1) (by omega) (by omega)
      rw [if_pos (ixg hp (by decide)), ix3, h6 3 (by decide)]
      obtain ⟨h0, h1', h2', h3, h4, h5⟩ := id hq
      rw [if_pos (by omega)]
      by_cases c0 : pq μ r p 3 = 0
      · rw [if_pos c0]
        rw [← dayN_step, show dgone (pq μ r p) = 0 from if_neg (by omega), show dayP (pq μ r p) = pq μ r p from if_pos c0, Int.add_zero, Int.min_eq_right (show wornU μ r p ≤ 9999 from hw.2), ← dayN_worn (n := p), show mu (dayN r p μ) r 3 (dayN r p μ r 3) = dayN r p μ from by funext a b; unfold mu; split <;> simp_all, putP_of h6] at hnext
        exact hnext
      · rw [if_neg c0, if_pos (ixg hp (by decide)), if_pos (ixg hp (by decide))]
        simp only [bnd]
        rw [if_pos (ixg hp (by decide)), ← putP_of h6, putP_mu (by decide), putP_at 3 (by decide), fu_s, if_pos (by omega)]
        by_cases c1 : pq μ r p 3 - 1 = 0
        · rw [if_pos c1]
          have hok : okP (fu (pq μ r p) 3 (pq μ r p 3 - 1)) := ⟨h0, h1', h2', by show 0 ≤ pq μ r p 3 - 1 ∧ pq μ r p 3 - 1 ≤ 60; omega, h4, h5⟩
          rw [M5_meets_eq N r p _ hp putP_at hok (by rw [putP_lo (by decide), dayN_worn]; exact hw), Option.bind_some, putP_lo (by decide), dayN_worn, putP_mlo (by decide), putP_putP]
          have e1 : goneP (fu (pq μ r p) 3 (pq μ r p 3 - 1)) = dgone (pq μ r p) := (if_pos (by omega)).symm
          have e2 : putP (mu (dayN r p μ) r 3 (min 9999 (wornU μ r p + dgone (pq μ r p)))) r p (meetP (fu (pq μ r p) 3 (pq μ r p 3 - 1))) = dayN r (p + 1) μ := by
            rw [← dayN_step]
            apply putP_congr
            intro k hk6
            rw [show dayP (pq μ r p) = meetP (pq μ r p) from by unfold dayP; rw [if_neg c0, if_pos (by omega)]]
            unfold meetP
            rw [e1, show dgone (pq μ r p) = goneP (pq μ r p) from if_pos (by omega)]
            by_cases k3 : k = 3
            · subst k3; rfl
            · rw [show fu (pq μ r p) 3 (pq μ r p 3 - 1) k = pq μ r p k from fu_n k3]; rfl
          rw [e1, e2]
          exact hnext
        · rw [if_neg c1]
          have e2 : putP (dayN r p μ) r p (fu (pq μ r p) 3 (pq μ r p 3 - 1)) = dayN r (p + 1) μ := by
            rw [← dayN_step, show dgone (pq μ r p) = 0 from if_neg (by omega), show dayP (pq μ r p) = fu (pq μ r p) 3 (pq μ r p 3 - 1) from by unfold dayP; rw [if_neg c0, if_neg (by omega)], Int.add_zero, Int.min_eq_right (show wornU μ r p ≤ 9999 from hw.2), ← dayN_worn (n := p), show mu (dayN r p μ) r 3 (dayN r p μ r 3) = dayN r p μ from by funext a b; unfold mu; split <;> simp_all]
          rw [e2]
          exact hnext
/-- a day of row r -/
def dayR (r : Nat) (μ : mm) : mm := dayN r (μ r 0).toNat μ
theorem M5_day_eq (N r : Nat) {μ : mm} (hN : 9 ≤ N) (h : okR μ r) : M5_day N r μ = some (dayR r μ) := by
  unfold M5_day bnd
  rw [← dayN_0]
  have := M5_day_loop N r h N 0 (by have := h.1; omega) (by have := h.1; omega)
  exact this
theorem dayR_ok {r : Nat} {μ : mm} (h : okR μ r) (hd : μ r 1 < 1000000) : okR (dayR r μ) r := by
  obtain ⟨hm, h1, h2, h3, hP⟩ := id h
  have hw := wornU_in h (μ r 0).toNat (by omega)
  unfold dayR
  refine ⟨by rw [dayN_many]; exact hm, by rw [dayN_day]; omega, by rw [dayN_store]; exact h2, by rw [dayN_worn]; exact hw, fun p hp => ?_⟩
  rw [dayN_many] at hp
  have h6 := dayN_at (r := r) (μ := μ) (show p < (μ r 0).toNat by omega)
  have hk := dayP_ok (hP p hp)
  have e : ∀ k, k < 6 → pq (dayN r (μ r 0).toNat μ) r p k = dayP (pq μ r p) k := h6
  unfold okP at hk ⊢
  rw [e 0 (by decide), e 1 (by decide), e 2 (by decide), e 3 (by decide), e 4 (by decide), e 5 (by decide)]
  exact hk
