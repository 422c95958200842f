/-! what happens at a counter: office o (now or mind) and row 1 go the same way -/
theorem off_put {o : Nat} {μ ν : mm} (R1 : relO o 1 μ) (ok : okR μ 1) (hd : μ 1 1 ≤ 999) (p : Nat) (q : Nat → Int) (hq : okP q) (e1 : ∀ k, k < 6 → ν (o + 2 + p) k = q k) (e2 : at6 ν 1 p q)
    (e3 : ∀ p', p' ≠ p → ∀ k, k < 6 → ν (o + 2 + p') k = μ (o + 2 + p') k ∧ ν 1 (4 + 6 * p' + k) = μ 1 (4 + 6 * p' + k)) (e4 : ν 1 0 = μ 1 0 ∧ ν o 2 = μ o 2) (e5 : ν o 3 = ν 1 2 ∧ 0 ≤ ν 1 2 ∧ ν 1 2 ≤ 999) (e6 : ν o 4 = ν 1 3 ∧ 0 ≤ ν 1 3 ∧ ν 1 3 ≤ 9999) (e7 : ν o 5 = μ o 5 ∧ ν 1 1 = μ 1 1) : relO o 1 ν ∧ okR ν 1 ∧ ν 1 1 ≤ 999 := by
  obtain ⟨r1, r2, r3, r4, r5⟩ := R1
  obtain ⟨o1, o2, o3, o4, o5⟩ := ok
  refine ⟨⟨by rw [e4.1, e4.2]; exact r1, e5.1, e6.1, by rw [e7.1, e7.2]; exact r4, fun p' hp' => ?_⟩, ⟨by rw [e4.1]; exact o1, by rw [e7.2]; exact o2, e5.2, e6.2, fun p' hp' => ?_⟩, by rw [e7.2]; exact hd⟩
  · rw [e4.1] at hp'
    intro k hk
    by_cases c : p' = p
    · subst c
      rw [e1 k hk]
      exact e2 k hk
    · rw [(e3 p' c k hk).1, (e3 p' c k hk).2]
      exact r5 p' hp' k hk
  · rw [e4.1] at hp'
    by_cases c : p' = p
    · subst c
      have e : ∀ k, k < 6 → pq ν 1 p' k = q k := e2
      unfold okP at hq ⊢
      rw [e 0 (by decide), e 1 (by decide), e 2 (by decide), e 3 (by decide), e 4 (by decide), e 5 (by decide)]
      exact hq
    · have hk := o5 p' hp'
      have e : ∀ k, k < 6 → pq ν 1 p' k = pq μ 1 p' k := fun k hk => (e3 p' c k hk).2
      unfold okP at hk ⊢
      rw [e 0 (by decide), e 1 (by decide), e 2 (by decide), e 3 (by decide), e 4 (by decide), e 5 (by decide)]
      exact hk
theorem offP {o : Nat} {μ : mm} (R1 : relO o 1 μ) (ok : okR μ 1) {n : Nat} (h : (n : Int) < μ 1 0) : okP (μ (o + 2 + n)) := by
  have hk := ok.2.2.2.2 n h
  have e : ∀ k, k < 6 → pq μ 1 n k = μ (o + 2 + n) k := R1.2.2.2.2 n h
  unfold okP at hk ⊢
  rw [← e 0 (by decide), ← e 1 (by decide), ← e 2 (by decide), ← e 3 (by decide), ← e 4 (by decide), ← e 5 (by decide)]
  exact hk
theorem kdo {o n : Nat} (ho : o = 10 ∨ o = 21) (h : n < 8) : kd (o + 2 + n) = 5 := by
  rcases ho with rfl | rfl
  · have := kd_el (i := 11) (j := n) rfl h
    rwa [show 11 + 1 + n = 10 + 2 + n by omega] at this
  · have := kd_el (i := 22) (j := n) rfl h
    rwa [show 22 + 1 + n = 21 + 2 + n by omega] at this
/-- the cells that such a step may change: office o, its people, row 1 -/
def offF (o : Nat) (μ ν : mm) : Prop := ∀ a, a ≠ 1 → a ≠ o → (a < o + 2 ∨ o + 9 < a) → ν a = μ a
theorem M5_issuesIn_eq (N r n : Nat) (hn : n < 8) (v : Int) (μ : mm) : M5_issuesIn N r (n : Int) v μ = some (mu (mu μ r 2 (μ r 2 - v)) r (4 + 6 * n + 2) (μ r (4 + 6 * n + 2) + v)) := by
  simp only [M5_issuesIn, bnd]
  rw [if_pos (ixg hn (by decide)), if_pos (ixg hn (by decide)), ix2, mu_j (show 4 + 6 * n + 2 ≠ 2 by omega)]
theorem off_issue (N : Nat) {o : Nat} (ho : o = 10 ∨ o = 21) {μ : mm} (R1 : relO o 1 μ) (ok : okR μ 1) (hd : μ 1 1 ≤ 999) {p v : Int} (hp : inR p) (hv : 0 ≤ v ∧ v ≤ 99) :
    (¬ (0 ≤ p ∧ p < μ 1 0 ∧ v ≤ μ 1 2 ∧ μ 1 (4 + 6 * p.toNat + 2) + v ≤ 99) ∧ M1_issue N o p v μ = some (0, μ)) ∨
    ((0 ≤ p ∧ p < μ 1 0 ∧ v ≤ μ 1 2 ∧ μ 1 (4 + 6 * p.toNat + 2) + v ≤ 99) ∧ ∃ μ1 μ2 : mm, M1_issue N o p v μ = some (1, μ1) ∧ μ1 1 = μ 1 ∧ M5_issuesIn N 1 p v μ1 = some μ2 ∧ relO o 1 μ2 ∧ okR μ2 1 ∧ μ2 1 1 ≤ 999 ∧ μ1 o 3 = μ2 1 2 ∧ offF o μ μ1 ∧ offF o μ μ2) := by
  have hm := ok.1
  have h2 := ok.2.2.1
  have e0 := R1.1
  have e2 := R1.2.1
  have hk := M1_knows_eq N o (μ := μ) hp (by omega)
  by_cases k : 0 ≤ p ∧ p < μ 1 0
  · obtain ⟨n, rfl⟩ := Int.eq_ofNat_of_zero_le k.1
    have hn : n < 8 := by omega
    have hq := offP R1 ok k.2
    have hf := R1.2.2.2.2 n k.2
    rw [Int.toNat_natCast, hf 2 (by decide)]
    rw [if_pos (by omega)] at hk
    by_cases c : v ≤ μ 1 2 ∧ μ (o + 2 + n) 2 + v ≤ 99
    · refine Or.inr ⟨⟨k.1, k.2, c.1, c.2⟩, mu (mu μ (o + 2 + n) 2 (μ (o + 2 + n) 2 + v)) o 3 (μ o 3 - v), mu (mu (mu (mu μ (o + 2 + n) 2 (μ (o + 2 + n) 2 + v)) o 3 (μ o 3 - v)) 1 2 (μ 1 2 - v)) 1 (4 + 6 * n + 2) (μ 1 (4 + 6 * n + 2) + v), ?_, ?_, ?_, ?_⟩
      · simp only [M1_issue, bnd]
        rw [hk, Option.bind_some, if_pos (by decide), if_neg (by decide), if_pos (by omega), if_neg (by omega), M1_at_eq N o n hn, Option.bind_some, if_pos (kdo ho hn), if_pos (by have := hq.2.2.1; omega), if_pos (by omega), Option.bind_some, if_pos (kdo ho hn), mu_c (show o ≠ o + 2 + n by omega)]
      · funext b; rw [mu_c (by omega), mu_c (by omega)]
      · rw [M5_issuesIn_eq N 1 n hn]
        rw [show (mu (mu μ (o + 2 + n) 2 (μ (o + 2 + n) 2 + v)) o 3 (μ o 3 - v)) 1 = μ 1 from by funext b; rw [mu_c (by omega), mu_c (by omega)]]
      · have ee := off_put (ν := mu (mu (mu (mu μ (o + 2 + n) 2 (μ (o + 2 + n) 2 + v)) o 3 (μ o 3 - v)) 1 2 (μ 1 2 - v)) 1 (4 + 6 * n + 2) (μ 1 (4 + 6 * n + 2) + v)) R1 ok hd n (fu (μ (o + 2 + n)) 2 (μ (o + 2 + n) 2 + v)) ⟨hq.1, hq.2.1, by show 0 ≤ μ (o + 2 + n) 2 + v ∧ μ (o + 2 + n) 2 + v ≤ 99; have := hq.2.2.1; omega, hq.2.2.2⟩ ?_ ?_ ?_ ?_ ?_ ?_ ?_
        · refine ⟨ee.1, ee.2.1, ee.2.2, ?_, ?_, ?_⟩
          · unfold mu; repeat' split
            all_goals omega
          · intro a h1 ho' hr
            funext b
            rw [mu_c ho', mu_c (by omega)]
          · intro a h1 ho' hr
            funext b
            rw [mu_c h1, mu_c h1, mu_c ho', mu_c (by omega)]
        · intro k hk; unfold mu fu; repeat' split
          all_goals first | rfl | omega
        · intro k hk
          have := hf k hk
          have := hf 2 (by decide)
          unfold mu fu; repeat' split
          all_goals first | rfl | omega
        · intro p' hp' k hk
          constructor
          · unfold mu; repeat' split
            all_goals first | rfl | omega
          · unfold mu; repeat' split
            all_goals first | rfl | omega
        · constructor <;> (unfold mu; repeat' split) <;> first | rfl | omega
        · refine ⟨?_, ?_, ?_⟩ <;> (unfold mu; repeat' split) <;> omega
        · have := ok.2.2.2.1; have := R1.2.2.1; refine ⟨?_, ?_, ?_⟩ <;> (unfold mu; repeat' split) <;> omega
        · constructor <;> (unfold mu; repeat' split) <;> first | rfl | omega
    · refine Or.inl ⟨fun z => c ⟨z.2.2.1, z.2.2.2⟩, ?_⟩
      simp only [M1_issue, bnd]
      rw [hk, Option.bind_some, if_pos (by decide), if_neg (by decide), if_pos (by omega)]
      by_cases c1 : μ o 3 < v
      · rw [if_pos c1]
      · rw [if_neg c1, M1_at_eq N o n hn, Option.bind_some, if_pos (kdo ho hn), if_pos (by have := hq.2.2.1; omega), if_neg (by omega)]
  · refine Or.inl ⟨fun z => k ⟨z.1, z.2.1⟩, ?_⟩
    rw [if_neg (by omega)] at hk
    simp only [M1_issue, bnd]
    rw [hk, Option.bind_some, if_pos (by decide), if_pos rfl]
/-- what handing in leaves -/
theorem M5_handsIn_eq (N r n : Nat) (hn : n < 8) (μ : mm) (h2 : 0 ≤ μ r 2 ∧ μ r 2 ≤ 999) (hh : 0 ≤ μ r (4 + 6 * n + 2) ∧ μ r (4 + 6 * n + 2) ≤ 99) (h3 : 0 ≤ μ r 3 ∧ μ r 3 ≤ 9999) : M5_handsIn N r (n : Int) μ = some (mu (mu (mu μ r (4 + 6 * n + 2) 0) r 2 (min 999 (μ r 2 + μ r (4 + 6 * n + 2)))) r 3 (min 9999 (μ r 3 + max 0 (μ r 2 + μ r (4 + 6 * n + 2) - 999)))) := by
  simp only [M5_handsIn, bnd]
  rw [if_pos (ixg hn (by decide)), if_pos (ixg hn (by decide)), ix2, M5_least_eq N (by decide) (by omega), Option.bind_some, if_pos (by omega)]
  by_cases c : μ r 2 + μ r (4 + 6 * n + 2) ≤ 999
  · rw [if_pos c]
    congr 1
    funext a b
    by_cases d : a = r ∧ b = 3
    · obtain ⟨rfl, rfl⟩ := d
      rw [mu_s, mu_j (by decide), mu_j (by omega)]
      omega
    · conv => rhs; unfold mu
      rw [if_neg d]
      unfold mu
      rfl
  · rw [if_neg c, M5_isGone_eq N r _ _ (by rw [mu_j (by decide), mu_j (by omega)]; exact h3) (by omega), Option.bind_some, mu_j (by decide), mu_j (by omega), Int.max_eq_right (by omega)]
