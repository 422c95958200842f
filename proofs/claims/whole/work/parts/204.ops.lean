/-! the plain calls -/
theorem Rel_now {μ ν : mm} (R : Rel μ) (h : relO 10 1 ν ∧ okR ν 1 ∧ ν 1 1 ≤ 999) (hc : ∀ a, a ≠ 0 → a ≠ 1 → a ≠ 10 → (a < 12 ∨ 19 < a) → scr a = false → ν a = μ a) (h0 : ∀ j, j ≠ 10 → j ≠ 12 → ν 0 j = μ 0 j) : Rel ν := by
  obtain ⟨-, ⟨b1, b2⟩, ⟨c1, c2, c3⟩, ⟨d1, d2, d3⟩, e, f⟩ := R
  have k : ∀ a, a ≠ 0 → a ≠ 1 → a ≠ 10 → (a < 12 ∨ 19 < a) → scr a = false → ν a = μ a := hc
  have k3 := k 3 (by decide) (by decide) (by decide) (by decide) (by decide)
  have k5 := k 5 (by decide) (by decide) (by decide) (by decide) (by decide)
  have k6 := k 6 (by decide) (by decide) (by decide) (by decide) (by decide)
  have k7 := k 7 (by decide) (by decide) (by decide) (by decide) (by decide)
  have k9 := k 9 (by decide) (by decide) (by decide) (by decide) (by decide)
  have k44 := k 44 (by decide) (by decide) (by decide) (by decide) (by decide)
  have k45 := k 45 (by decide) (by decide) (by decide) (by decide) (by decide)
  have k46 := k 46 (by decide) (by decide) (by decide) (by decide) (by decide)
  have k47 := k 47 (by decide) (by decide) (by decide) (by decide) (by decide)
  have k32 := k 32 (by decide) (by decide) (by decide) (by decide) (by decide)
  have k20 := k 20 (by decide) (by decide) (by decide) (by decide) (by decide)
  have k31 := k 31 (by decide) (by decide) (by decide) (by decide) (by decide)
  have k42 := k 42 (by decide) (by decide) (by decide) (by decide) (by decide)
  have hpi : ∀ p, p < 8 → ν (32 + 2 + p) = μ (32 + 2 + p) := fun p hp => k _ (by omega) (by omega) (by omega) (by omega) (by revert p; decide)
  refine ⟨h, ⟨by rw [k9, h0 4 (by decide) (by decide)]; exact b1, ?_⟩, ⟨by rw [k44, h0 8 (by decide) (by decide)]; exact c1, by rw [h0 8 (by decide) (by decide)]; exact c2, fun j hj => ?_⟩, ⟨by rw [k9, h0 9 (by decide) (by decide)]; exact d1, by rw [h0 9 (by decide) (by decide)]; exact d2, fun j hj => ?_⟩, fun j h1 h6 => ?_, fun q hk => ?_⟩
  · rw [h0 4 (by decide) (by decide)]
    rcases b2 with b | ⟨b, b3, b4, b5⟩
    · exact Or.inl b
    · exact Or.inr ⟨b, relO_congr b3 k32 k3 hpi b4.1.2, okR_congr b4 k3, by rw [k3]; exact b5⟩
  · rw [h0 8 (by decide) (by decide)] at hj
    rw [k45, k5]
    exact c3 j hj
  · rw [h0 9 (by decide) (by decide)] at hj
    rw [k46, k6]
    exact d3 j hj
  · rw [k47, k7]
    exact e j h1 h6
  · rw [k20, k31, k42]
    exact f q hk
/-- one person, store and worn may change -/
theorem now_put {μ ν : mm} (R1 : relO 10 1 μ) (ok : okR μ 1) (hd : μ 1 1 ≤ 999) (p : Nat) (q : Nat → Int) (hq : okP q) (e1 : ∀ k, k < 6 → ν (12 + p) k = q k) (e2 : at6 ν 1 p q)
    (e3 : ∀ p', p' ≠ p → ∀ k, k < 6 → ν (12 + p') k = μ (12 + p') k ∧ ν 1 (4 + 6 * p' + k) = μ 1 (4 + 6 * p' + k)) (e4 : ν 1 0 = μ 1 0 ∧ ν 10 2 = μ 10 2) (e5 : ν 10 3 = ν 1 2 ∧ 0 ≤ ν 1 2 ∧ ν 1 2 ≤ 999) (e6 : ν 10 4 = ν 1 3 ∧ 0 ≤ ν 1 3 ∧ ν 1 3 ≤ 9999) (e7 : ν 10 5 = μ 10 5 ∧ ν 1 1 = μ 1 1) : relO 10 1 ν ∧ okR ν 1 ∧ ν 1 1 ≤ 999 := by
  obtain ⟨r1, r2, r3, r4, r5⟩ := R1
  obtain ⟨o1, o2, o3, o4, o5⟩ := ok
  refine ⟨⟨by rw [e4.1, e4.2]; exact r1, e5.1, e6.1, by rw [e7.1, e7.2]; exact r4, fun p' hp' => ?_⟩, ⟨by rw [e4.1]; exact o1, by rw [e7.2]; exact o2, e5.2, e6.2, fun p' hp' => ?_⟩, by rw [e7.2]; exact hd⟩
  · rw [e4.1] at hp'
    intro k hk
    show ν 1 (4 + 6 * p' + k) = ν (12 + p') k
    by_cases c : p' = p
    · subst c
      rw [e1 k hk]
      exact e2 k hk
    · rw [(e3 p' c k hk).1, (e3 p' c k hk).2]
      exact r5 p' hp' k hk
  · rw [e4.1] at hp'
    by_cases c : p' = p
    · subst c
      have e : ∀ k, k < 6 → pq ν 1 p' k = q k := e2
      unfold okP at hq ⊢
      rw [e 0 (by decide), e 1 (by decide), e 2 (by decide), e 3 (by decide), e 4 (by decide), e 5 (by decide)]
      exact hq
    · have hk := o5 p' hp'
      have e : ∀ k, k < 6 → pq ν 1 p' k = pq μ 1 p' k := fun k hk => (e3 p' c k hk).2
      unfold okP at hk ⊢
      rw [e 0 (by decide), e 1 (by decide), e 2 (by decide), e 3 (by decide), e 4 (by decide), e 5 (by decide)]
      exact hk
theorem kd12 {n : Nat} (h : n < 8) : kd (10 + 2 + n) = 5 := by
  have := kd_el (i := 11) (j := n) rfl h
  rwa [show 11 + 1 + n = 10 + 2 + n by omega] at this
/-- the person's fields, as the class holds them -/
theorem ok12 {μ : mm} (R1 : relO 10 1 μ) (ok : okR μ 1) {n : Nat} (h : (n : Int) < μ 1 0) : okP (μ (12 + n)) := by
  have hk := ok.2.2.2.2 n h
  have e : ∀ k, k < 6 → μ 1 (4 + 6 * n + k) = μ (10 + 2 + n) k := R1.2.2.2.2 n h
  have e' : ∀ k, k < 6 → pq μ 1 n k = μ (12 + n) k := e
  unfold okP at hk ⊢
  rw [← e' 0 (by decide), ← e' 1 (by decide), ← e' 2 (by decide), ← e' 3 (by decide), ← e' 4 (by decide), ← e' 5 (by decide)]
  exact hk
theorem op_due (N : Nat) {μ : mm} (R : Rel μ) {p v : Int} (hp : inR p) (hv : inR v) : Op (M4_due N p v) (M5_due N p v) μ := by
  obtain ⟨⟨a1, a2, a3⟩, rest⟩ := id R
  have hm := a2.1
  have hu := unkZ_in μ p
  have ho := outZ_in v 0 60
  have e4 : M4_due N p v μ = if fstZ (unkZ μ p) (outZ v 0 60) 0 = 0 then ((M1_at N 10 p μ).bind fun (q5 : Nat) => if kd q5 = 5 then some (μ q5 3, mu μ q5 3 v) else none) else M4_refused N (fstZ (unkZ μ p) (outZ v 0 60) 0) μ := by
    have hf := fstZ_in (c := 0) hu ho (by decide)
    simp only [M4_due, bnd]
    rw [M4_unknown_eq N hp a1 a2, Option.bind_some, M4_outside_eq N hv (by decide) (by decide), Option.bind_some, M4_firstOf_eq N hu ho, Option.bind_some, if_pos (show inR (fstZ (unkZ μ p) (outZ v 0 60) 0) from by omega), M4_refused_eq N (by omega)]
    rfl
  by_cases k : unkZ μ p = 0
  · have kk := unkZ_0 k
    obtain ⟨n, rfl⟩ := Int.eq_ofNat_of_zero_le kk.1
    have hn : n < 8 := by omega
    by_cases o : outZ v 0 60 = 0
    · have oo := outZ_0 o
      have f0 : fstZ (unkZ μ n) (outZ v 0 60) 0 = 0 := by unfold fstZ; rw [if_pos k, if_pos o]
      have hq := ok12 a1 a2 kk.2
      refine ⟨μ (12 + n) 3, mu μ (12 + n) 3 v, mu (mu μ (12 + n) 3 v) 1 (4 + 6 * n + 3) v, ?_, ?_, ?_⟩
      · rw [e4, if_pos f0, M1_at_eq N 10 n hn, Option.bind_some, if_pos (kd12 hn)]
      · have r1 : mu μ (12 + n) 3 v 1 = μ 1 := funext fun b => mu_c (by omega)
        have a2' : okR (mu μ (12 + n) 3 v) 1 := okR_congr a2 r1
        simp only [M5_due, J5_due_19, bnd]
        rw [M5_isOne_eq N hp a2', Option.bind_some, r1, if_pos kk, if_pos (by decide), if_neg (by decide), M5_wrongBy_eq N hv (by decide) (by decide), Option.bind_some, o, if_pos (by decide), if_pos rfl, if_pos (ixg hn (by decide)), if_pos (ixg hn (by decide)), ix3]
        rw [show μ 1 (4 + 6 * n + 3) = μ (12 + n) 3 from (a1.2.2.2.2 n kk.2 3 (by decide)).trans (by rw [show 10 + 2 + n = 12 + n by omega])]
      · refine Rel_now R (now_put a1 a2 a3 n (fu (μ (12 + n)) 3 v) ⟨hq.1, hq.2.1, hq.2.2.1, oo, hq.2.2.2.2⟩ ?_ ?_ ?_ ?_ ?_ ?_ ?_) ?_ ?_
        · intro k hk; unfold mu fu; repeat' split
          all_goals first | rfl | omega
        · intro k hk
          have := a1.2.2.2.2 n kk.2 k hk
          rw [show 10 + 2 + n = 12 + n by omega] at this
          unfold mu fu; repeat' split
          all_goals first | rfl | omega
        · intro p' hp' k hk
          constructor
          · unfold mu; repeat' split
            all_goals first | rfl | omega
          · unfold mu; repeat' split
            all_goals first | rfl | omega
        · constructor <;> (unfold mu; repeat' split) <;> first | rfl | omega
        · have := a2.2.2.1; have := a1.2.1; refine ⟨?_, ?_, ?_⟩ <;> (unfold mu; repeat' split) <;> omega
        · have := a2.2.2.2.1; have := a1.2.2.1; refine ⟨?_, ?_, ?_⟩ <;> (unfold mu; repeat' split) <;> omega
        · constructor <;> (unfold mu; repeat' split) <;> first | rfl | omega
        · intro a h0 h1 h10 h12 hs
          funext b
          rw [mu_c h1, mu_c (by omega)]
        · intro j _ _
          rw [mu_c (by decide), mu_c (by omega)]
    · refine Op_ref N R (c := outZ v 0 60) (by omega) ?_ ?_
      · have f0 : fstZ (unkZ μ n) (outZ v 0 60) 0 = outZ v 0 60 := by unfold fstZ; rw [if_pos k, if_neg o]
        rw [e4, f0, if_neg o]
      · intro ν hν
        have r1 : ν 1 = μ 1 := by rw [hν]; exact funext fun b => mu_c (by decide)
        simp only [M5_due, J5_due_19, bnd]
        rw [M5_isOne_eq N hp (okR_congr a2 r1), Option.bind_some, r1, if_pos kk, if_pos (by decide), if_neg (by decide), M5_wrongBy_eq N hv (by decide) (by decide), Option.bind_some, if_pos (show inR (outZ v 0 60) from by omega), if_neg o, M5_no_eq N (by omega)]
        rfl
  · have k1 : unkZ μ p = -1 := by unfold unkZ at k ⊢; split at k <;> simp_all
    refine Op_ref N R (c := -1) (by decide) ?_ ?_
    · have f0 : fstZ (unkZ μ p) (outZ v 0 60) 0 = -1 := by unfold fstZ; rw [if_neg k, k1]
      rw [e4, f0, if_neg (by decide)]
    · intro ν hν
      have r1 : ν 1 = μ 1 := by rw [hν]; exact funext fun b => mu_c (by decide)
      have kk : ¬ (0 ≤ p ∧ p < μ 1 0) := fun z => k (if_pos z)
      simp only [M5_due, J5_due_19, bnd]
      rw [M5_isOne_eq N hp (okR_congr a2 r1), Option.bind_some, r1, if_neg kk, if_pos (by decide), if_pos rfl, if_pos (by decide), if_neg (by decide), M5_no_eq N (by decide)]
      rfl
