theorem M1_wear_eq (N o : Nat) (v : Int) (μ : mm) (h : 0 ≤ μ o 4 ∧ μ o 4 ≤ 9999) (hv : 0 ≤ v ∧ v ≤ 2000) : M1_wear N o v μ = some (mu μ o 4 (min 9999 (μ o 4 + v))) := by
  simp only [M1_wear, bnd]
  rw [if_pos (by omega)]
  congr 2
  split <;> omega
theorem off_hand (N : Nat) {o : Nat} (ho : o = 10 ∨ o = 21) {μ : mm} (R1 : relO o 1 μ) (ok : okR μ 1) (hd : μ 1 1 ≤ 999) {p : Int} (hp : inR p) :
    (¬ (0 ≤ p ∧ p < μ 1 0) ∧ M1_handIn N o p μ = some (0, μ)) ∨
    ((0 ≤ p ∧ p < μ 1 0) ∧ ∃ μ1 μ2 : mm, M1_handIn N o p μ = some (1, μ1) ∧ μ1 1 = μ 1 ∧ M5_handsIn N 1 p μ1 = some μ2 ∧ relO o 1 μ2 ∧ okR μ2 1 ∧ μ2 1 1 ≤ 999 ∧ μ1 o 3 = μ2 1 2 ∧ offF o μ μ1 ∧ offF o μ μ2) := by
  have hm := ok.1
  have h2 := ok.2.2.1
  have h3 := ok.2.2.2.1
  have e0 := R1.1
  have e2 := R1.2.1
  have e3 := R1.2.2.1
  have hk := M1_knows_eq N o (μ := μ) hp (by omega)
  by_cases k : 0 ≤ p ∧ p < μ 1 0
  · obtain ⟨n, rfl⟩ := Int.eq_ofNat_of_zero_le k.1
    have hn : n < 8 := by omega
    have hq := offP R1 ok k.2
    have hf := R1.2.2.2.2 n k.2
    have hf2 := hf 2 (by decide)
    have hq2 := hq.2.2.1
    rw [if_pos (by omega)] at hk
    refine Or.inr ⟨k, mu (mu (mu μ (o + 2 + n) 2 0) o 3 (min 999 (μ o 3 + μ (o + 2 + n) 2))) o 4 (min 9999 (μ o 4 + (μ o 3 + μ (o + 2 + n) 2 - min 999 (μ o 3 + μ (o + 2 + n) 2)))), mu (mu (mu (mu (mu (mu μ (o + 2 + n) 2 0) o 3 (min 999 (μ o 3 + μ (o + 2 + n) 2))) o 4 (min 9999 (μ o 4 + (μ o 3 + μ (o + 2 + n) 2 - min 999 (μ o 3 + μ (o + 2 + n) 2))))) 1 (4 + 6 * n + 2) 0) 1 2 (min 999 (μ 1 2 + μ 1 (4 + 6 * n + 2)))) 1 3 (min 9999 (μ 1 3 + max 0 (μ 1 2 + μ 1 (4 + 6 * n + 2) - 999))), ?_, ?_, ?_, ?_⟩
    · simp only [M1_handIn, bnd]
      rw [hk, Option.bind_some, if_pos (by decide), if_neg (by decide), M1_at_eq N o n hn, Option.bind_some, if_pos (kdo ho hn), Option.bind_some, if_pos (kdo ho hn), if_pos (by omega), mu_s]
      rw [show (if 999 < μ o 3 + μ (o + 2 + n) 2 then 999 else μ o 3 + μ (o + 2 + n) 2) = min 999 (μ o 3 + μ (o + 2 + n) 2) by split <;> omega]
      rw [M1_wear_eq N o _ _ (by rw [mu_j (by decide), mu_c (by omega)]; omega) (by omega), Option.bind_some, mu_j (by decide), mu_c (show o ≠ o + 2 + n by omega)]
    · funext b; rw [mu_c (by omega), mu_c (by omega), mu_c (by omega)]
    · have er : (mu (mu (mu μ (o + 2 + n) 2 0) o 3 (min 999 (μ o 3 + μ (o + 2 + n) 2))) o 4 (min 9999 (μ o 4 + (μ o 3 + μ (o + 2 + n) 2 - min 999 (μ o 3 + μ (o + 2 + n) 2))))) 1 = μ 1 := by
        funext b; rw [mu_c (by omega), mu_c (by omega), mu_c (by omega)]
      rw [M5_handsIn_eq N 1 n hn _ (by rw [er]; exact h2) (by rw [er]; omega) (by rw [er]; exact h3), er]
    · have ee := off_put (ν := mu (mu (mu (mu (mu (mu μ (o + 2 + n) 2 0) o 3 (min 999 (μ o 3 + μ (o + 2 + n) 2))) o 4 (min 9999 (μ o 4 + (μ o 3 + μ (o + 2 + n) 2 - min 999 (μ o 3 + μ (o + 2 + n) 2))))) 1 (4 + 6 * n + 2) 0) 1 2 (min 999 (μ 1 2 + μ 1 (4 + 6 * n + 2)))) 1 3 (min 9999 (μ 1 3 + max 0 (μ 1 2 + μ 1 (4 + 6 * n + 2) - 999)))) R1 ok hd n (fu (μ (o + 2 + n)) 2 0) ⟨hq.1, hq.2.1, by show 0 ≤ (0 : Int) ∧ (0 : Int) ≤ 99; omega, hq.2.2.2⟩ ?_ ?_ ?_ ?_ ?_ ?_ ?_
      · refine ⟨ee.1, ee.2.1, ee.2.2, ?_, ?_, ?_⟩
        · rw [mu_j (show 3 ≠ 4 by decide), mu_s, mu_j (show 2 ≠ 3 by decide), mu_s]
          omega
        · intro a h1 ho' hr
          funext b
          rw [mu_c ho', mu_c ho', mu_c (by omega)]
        · intro a h1 ho' hr
          funext b
          rw [mu_c h1, mu_c h1, mu_c h1, mu_c ho', mu_c ho', mu_c (by omega)]
      · intro k hk; unfold mu fu; repeat' split
        all_goals first | rfl | omega
      · intro k hk
        have := hf k hk
        unfold mu fu; repeat' split
        all_goals first | rfl | omega
      · intro p' hp' k hk
        constructor
        · unfold mu; repeat' split
          all_goals first | rfl | omega
        · unfold mu; repeat' split
          all_goals first | rfl | omega
      · constructor <;> (unfold mu; repeat' split) <;> first | rfl | omega
      · rw [mu_c (show o ≠ 1 by omega), mu_c (show o ≠ 1 by omega), mu_c (show o ≠ 1 by omega), mu_j (show 3 ≠ 4 by decide), mu_s, mu_j (show 2 ≠ 3 by decide), mu_s]
        omega
      · rw [mu_c (show o ≠ 1 by omega), mu_c (show o ≠ 1 by omega), mu_c (show o ≠ 1 by omega), mu_s, mu_s]
        omega
      · constructor <;> (unfold mu; repeat' split) <;> first | rfl | omega
  · refine Or.inl ⟨k, ?_⟩
    rw [if_neg (by omega)] at hk
    simp only [M1_handIn, bnd]
    rw [hk, Option.bind_some, if_pos (by decide), if_pos rfl]
theorem off_due (N : Nat) {o : Nat} (ho : o = 10 ∨ o = 21) {μ : mm} (R1 : relO o 1 μ) (ok : okR μ 1) (hd : μ 1 1 ≤ 999) {p v : Int} (hp : inR p) (hv : 0 ≤ v ∧ v ≤ 99) :
    (¬ (0 ≤ p ∧ p < μ 1 0 ∧ v ≤ 60) ∧ M1_setDue N o p v μ = some (0, μ)) ∨
    ((0 ≤ p ∧ p < μ 1 0 ∧ v ≤ 60) ∧ ∃ μ1 : mm, M1_setDue N o p v μ = some (1, μ1) ∧ μ1 1 = μ 1 ∧ relO o 1 (mu μ1 1 (4 + 6 * p.toNat + 3) v) ∧ okR (mu μ1 1 (4 + 6 * p.toNat + 3) v) 1 ∧ mu μ1 1 (4 + 6 * p.toNat + 3) v 1 1 ≤ 999 ∧ offF o μ μ1) := by
  have hm := ok.1
  have e0 := R1.1
  have hk := M1_knows_eq N o (μ := μ) hp (by omega)
  by_cases k : 0 ≤ p ∧ p < μ 1 0
  · obtain ⟨n, rfl⟩ := Int.eq_ofNat_of_zero_le k.1
    have hn : n < 8 := by omega
    have hq := offP R1 ok k.2
    have hf := R1.2.2.2.2 n k.2
    rw [if_pos (by omega)] at hk
    rw [Int.toNat_natCast]
    by_cases c : v ≤ 60
    · refine Or.inr ⟨⟨k.1, k.2, c⟩, mu μ (o + 2 + n) 3 v, ?_, ?_, ?_⟩
      · simp only [M1_setDue, bnd]
        rw [hk, Option.bind_some, if_pos (by decide), if_neg (by decide), if_pos (by omega), if_pos c, M1_at_eq N o n hn, Option.bind_some, if_pos (kdo ho hn)]
      · funext b; rw [mu_c (by omega)]
      · have ee := off_put (ν := mu (mu μ (o + 2 + n) 3 v) 1 (4 + 6 * n + 3) v) R1 ok hd n (fu (μ (o + 2 + n)) 3 v) ⟨hq.1, hq.2.1, hq.2.2.1, ⟨hv.1, c⟩, hq.2.2.2.2⟩ ?_ ?_ ?_ ?_ ?_ ?_ ?_
        · refine ⟨ee.1, ee.2.1, ee.2.2, ?_⟩
          intro a h1 ho' hr
          funext b
          rw [mu_c (by omega)]
        · intro k hk; unfold mu fu; repeat' split
          all_goals first | rfl | omega
        · intro k hk
          have := hf k hk
          unfold mu fu; repeat' split
          all_goals first | rfl | omega
        · intro p' hp' k hk
          constructor
          · unfold mu; repeat' split
            all_goals first | rfl | omega
          · unfold mu; repeat' split
            all_goals first | rfl | omega
        · constructor <;> (unfold mu; repeat' split) <;> first | rfl | omega
        · have := ok.2.2.1; have := R1.2.1; refine ⟨?_, ?_, ?_⟩ <;> (unfold mu; repeat' split) <;> omega
        · have := ok.2.2.2.1; have := R1.2.2.1; refine ⟨?_, ?_, ?_⟩ <;> (unfold mu; repeat' split) <;> omega
        · constructor <;> (unfold mu; repeat' split) <;> first | rfl | omega
    · refine Or.inl ⟨fun z => c z.2.2, ?_⟩
      simp only [M1_setDue, bnd]
      rw [hk, Option.bind_some, if_pos (by decide), if_neg (by decide), if_pos (by omega), if_neg c]
  · refine Or.inl ⟨fun z => k ⟨z.1, z.2.1⟩, ?_⟩
    rw [if_neg (by omega)] at hk
    simp only [M1_setDue, bnd]
    rw [hk, Option.bind_some, if_pos (by decide), if_pos rfl]
/-- scalars alone change -/
theorem off_scal {o : Nat} {μ ν : mm} (R1 : relO o 1 μ) (ok : okR μ 1) (hp : ∀ p, p < 8 → ν (o + 2 + p) = μ (o + 2 + p)) (hr : ∀ j, 4 ≤ j → ν 1 j = μ 1 j) (e4 : ν 1 0 = μ 1 0 ∧ ν o 2 = μ o 2) (e5 : ν o 3 = ν 1 2 ∧ 0 ≤ ν 1 2 ∧ ν 1 2 ≤ 999) (e6 : ν o 4 = ν 1 3 ∧ 0 ≤ ν 1 3 ∧ ν 1 3 ≤ 9999) (e7 : ν o 5 = ν 1 1 ∧ 0 ≤ ν 1 1 ∧ ν 1 1 ≤ 999) : relO o 1 ν ∧ okR ν 1 ∧ ν 1 1 ≤ 999 := by
  obtain ⟨r1, r2, r3, r4, r5⟩ := R1
  obtain ⟨o1, o2, o3, o4, o5⟩ := ok
  refine ⟨⟨by rw [e4.1, e4.2]; exact r1, e5.1, e6.1, e7.1, fun p' hp' => ?_⟩, ⟨by rw [e4.1]; exact o1, by omega, e5.2, e6.2, fun p' hp' => ?_⟩, e7.2.2⟩
  · rw [e4.1] at hp'
    intro k hk
    rw [hr _ (by omega), hp p' (by omega)]
    exact r5 p' hp' k hk
  · rw [e4.1] at hp'
    have hk := o5 p' hp'
    have e : ∀ k, pq ν 1 p' k = pq μ 1 p' k := fun k => hr _ (by omega)
    unfold okP at hk ⊢
    rw [e 0, e 1, e 2, e 3, e 4, e 5]
    exact hk
theorem off_fill (N : Nat) {o : Nat} (ho : o = 10 ∨ o = 21) {μ : mm} (R1 : relO o 1 μ) (ok : okR μ 1) (hd : μ 1 1 ≤ 999) {v : Int} (hv : 0 ≤ v ∧ v ≤ 999) :
    (¬ (μ 1 2 + v ≤ 999) ∧ M1_fill N o v μ = some (0, μ)) ∨
    ((μ 1 2 + v ≤ 999) ∧ ∃ μ1 : mm, M1_fill N o v μ = some (1, μ1) ∧ μ1 1 = μ 1 ∧ relO o 1 (mu μ1 1 2 (μ 1 2 + v)) ∧ okR (mu μ1 1 2 (μ 1 2 + v)) 1 ∧ mu μ1 1 2 (μ 1 2 + v) 1 1 ≤ 999 ∧ μ1 o 3 = μ 1 2 + v ∧ offF o μ μ1) := by
  have h2 := ok.2.2.1
  have e2 := R1.2.1
  have hd0 := ok.2.1
  have e7 := R1.2.2.2.1
  have h3 := ok.2.2.2.1
  have e3 := R1.2.2.1
  by_cases c : μ 1 2 + v ≤ 999
  · refine Or.inr ⟨c, mu μ o 3 (μ o 3 + v), ?_, ?_, ?_⟩
    · simp only [M1_fill, bnd]
      rw [if_pos (by omega), if_pos (by omega)]
    · funext b; rw [mu_c (by omega)]
    · have ee := off_scal (ν := mu (mu μ o 3 (μ o 3 + v)) 1 2 (μ 1 2 + v)) R1 ok (fun p hp => by funext b; rw [mu_c (by omega), mu_c (by omega)]) (fun j hj => by rw [mu_j (by omega), mu_c (by omega)]) ?_ ?_ ?_ ?_
      · refine ⟨ee.1, ee.2.1, ee.2.2, by rw [mu_s, e2], ?_⟩
        intro a h1 ho' hr
        funext b
        rw [mu_c ho']
      · constructor <;> (unfold mu; repeat' split) <;> first | rfl | omega
      · refine ⟨?_, ?_, ?_⟩ <;> (unfold mu; repeat' split) <;> omega
      · refine ⟨?_, ?_, ?_⟩ <;> (unfold mu; repeat' split) <;> omega
      · refine ⟨?_, ?_, ?_⟩ <;> (unfold mu; repeat' split) <;> omega
  · refine Or.inl ⟨c, ?_⟩
    simp only [M1_fill, bnd]
    rw [if_pos (by omega), if_neg (by omega)]
