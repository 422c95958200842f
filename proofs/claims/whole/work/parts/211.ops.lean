theorem op_person (N : Nat) {μ : mm} (R : Rel μ) {p w : Int} (hp : inR p) (hw : inR w) : Op (M4_person N p w) (M5_person N p w) μ := by
  obtain ⟨⟨a1, a2, a3⟩, -⟩ := id R
  have hm := a2.1
  have hu := unkZ_in μ p
  have ht := othZ_in w 7
  by_cases k : unkZ μ p = 0
  · have kk := unkZ_0 k
    obtain ⟨n, rfl⟩ := Int.eq_ofNat_of_zero_le kk.1
    have hn : n < 8 := by omega
    have h6 := a1.2.2.2.2 n kk.2
    have hq := offP a1 a2 kk.2
    by_cases t : othZ w 7 = 0
    · have tt := othZ_0 t
      have hc : w = 0 ∨ w = 1 ∨ w = 2 ∨ w = 3 ∨ w = 4 ∨ w = 5 ∨ w = 6 ∨ w = 7 := by omega
      rcases hc with rfl | rfl | rfl | rfl | rfl | rfl | rfl | rfl
      · refine ⟨μ (10 + 2 + n) 0, μ, μ, ?_, ?_, R⟩
        · simp only [M4_person]
          rw [M4_unknown_eq N hp a1 a2, Option.bind_some, M4_other_eq N hw (by decide), Option.bind_some, M4_firstOf_eq N hu ht, Option.bind_some, fst0 k t, if_pos (by decide), if_pos rfl, M1_at_eq N 10 n hn, Option.bind_some, if_pos (kdo (Or.inl rfl) hn), if_pos hw]
          rfl
        · simp only [M5_person]
          rw [M5_isOne_eq N hp a2, Option.bind_some, if_pos kk, if_pos (by decide), if_neg (by decide), M5_isIn_eq N hw (by decide) (by decide), Option.bind_some, if_pos (show (0 : Int) ≤ 0 ∧ (0 : Int) ≤ 5 by decide), if_pos (by decide), if_neg (by decide), if_pos (ixg hn (by decide)), ix0, h6 0 (by decide)]
      · refine ⟨μ (10 + 2 + n) 1, μ, μ, ?_, ?_, R⟩
        · simp only [M4_person]
          rw [M4_unknown_eq N hp a1 a2, Option.bind_some, M4_other_eq N hw (by decide), Option.bind_some, M4_firstOf_eq N hu ht, Option.bind_some, fst0 k t, if_pos (by decide), if_pos rfl, M1_at_eq N 10 n hn, Option.bind_some, if_pos (kdo (Or.inl rfl) hn), if_pos hw]
          rfl
        · simp only [M5_person]
          rw [M5_isOne_eq N hp a2, Option.bind_some, if_pos kk, if_pos (by decide), if_neg (by decide), M5_isIn_eq N hw (by decide) (by decide), Option.bind_some, if_pos (show (0 : Int) ≤ 1 ∧ (1 : Int) ≤ 5 by decide), if_pos (by decide), if_neg (by decide), if_pos (ixg hn (by decide)), ix1, h6 1 (by decide)]
      · refine ⟨μ (10 + 2 + n) 2, μ, μ, ?_, ?_, R⟩
        · simp only [M4_person]
          rw [M4_unknown_eq N hp a1 a2, Option.bind_some, M4_other_eq N hw (by decide), Option.bind_some, M4_firstOf_eq N hu ht, Option.bind_some, fst0 k t, if_pos (by decide), if_pos rfl, M1_at_eq N 10 n hn, Option.bind_some, if_pos (kdo (Or.inl rfl) hn), if_pos hw]
          rfl
        · simp only [M5_person]
          rw [M5_isOne_eq N hp a2, Option.bind_some, if_pos kk, if_pos (by decide), if_neg (by decide), M5_isIn_eq N hw (by decide) (by decide), Option.bind_some, if_pos (show (0 : Int) ≤ 2 ∧ (2 : Int) ≤ 5 by decide), if_pos (by decide), if_neg (by decide), if_pos (ixg hn (by decide)), ix2, h6 2 (by decide)]
      · refine ⟨μ (10 + 2 + n) 3, μ, μ, ?_, ?_, R⟩
        · simp only [M4_person]
          rw [M4_unknown_eq N hp a1 a2, Option.bind_some, M4_other_eq N hw (by decide), Option.bind_some, M4_firstOf_eq N hu ht, Option.bind_some, fst0 k t, if_pos (by decide), if_pos rfl, M1_at_eq N 10 n hn, Option.bind_some, if_pos (kdo (Or.inl rfl) hn), if_pos hw]
          rfl
        · simp only [M5_person]
          rw [M5_isOne_eq N hp a2, Option.bind_some, if_pos kk, if_pos (by decide), if_neg (by decide), M5_isIn_eq N hw (by decide) (by decide), Option.bind_some, if_pos (show (0 : Int) ≤ 3 ∧ (3 : Int) ≤ 5 by decide), if_pos (by decide), if_neg (by decide), if_pos (ixg hn (by decide)), ix3, h6 3 (by decide)]
      · refine ⟨μ (10 + 2 + n) 4, μ, μ, ?_, ?_, R⟩
        · simp only [M4_person]
          rw [M4_unknown_eq N hp a1 a2, Option.bind_some, M4_other_eq N hw (by decide), Option.bind_some, M4_firstOf_eq N hu ht, Option.bind_some, fst0 k t, if_pos (by decide), if_pos rfl, M1_at_eq N 10 n hn, Option.bind_some, if_pos (kdo (Or.inl rfl) hn), if_pos hw]
          rfl
        · simp only [M5_person]
          rw [M5_isOne_eq N hp a2, Option.bind_some, if_pos kk, if_pos (by decide), if_neg (by decide), M5_isIn_eq N hw (by decide) (by decide), Option.bind_some, if_pos (show (0 : Int) ≤ 4 ∧ (4 : Int) ≤ 5 by decide), if_pos (by decide), if_neg (by decide), if_pos (ixg hn (by decide)), ix4, h6 4 (by decide)]
      · refine ⟨μ (10 + 2 + n) 5, μ, μ, ?_, ?_, R⟩
        · simp only [M4_person]
          rw [M4_unknown_eq N hp a1 a2, Option.bind_some, M4_other_eq N hw (by decide), Option.bind_some, M4_firstOf_eq N hu ht, Option.bind_some, fst0 k t, if_pos (by decide), if_pos rfl, M1_at_eq N 10 n hn, Option.bind_some, if_pos (kdo (Or.inl rfl) hn), if_pos hw]
          rfl
        · simp only [M5_person]
          rw [M5_isOne_eq N hp a2, Option.bind_some, if_pos kk, if_pos (by decide), if_neg (by decide), M5_isIn_eq N hw (by decide) (by decide), Option.bind_some, if_pos (show (0 : Int) ≤ 5 ∧ (5 : Int) ≤ 5 by decide), if_pos (by decide), if_neg (by decide), if_pos (ixg hn (by decide)), ix5, h6 5 (by decide)]
      · refine ⟨needsZ (μ (10 + 2 + n) 0) (μ (10 + 2 + n) 1), μ, μ, ?_, ?_, R⟩
        · simp only [M4_person, M2_needed]
          rw [M4_unknown_eq N hp a1 a2, Option.bind_some, M4_other_eq N hw (by decide), Option.bind_some, M4_firstOf_eq N hu ht, Option.bind_some, fst0 k t, if_pos (by decide), if_pos rfl, M1_at_eq N 10 n hn, Option.bind_some, if_pos (kdo (Or.inl rfl) hn), if_pos hw, M0_needs_eq N hq.1 hq.2.1]
          rfl
        · simp only [M5_person]
          rw [M5_isOne_eq N hp a2, Option.bind_some, if_pos kk, if_pos (by decide), if_neg (by decide), M5_isIn_eq N hw (by decide) (by decide), Option.bind_some, if_neg (show ¬ ((0 : Int) ≤ 6 ∧ (6 : Int) ≤ 5) by decide), if_pos (by decide), if_pos rfl, if_pos hw, if_pos (by decide), M5_needs_eq N 1 n μ hn h6 hq, Option.bind_some]
      · refine ⟨lackZ (μ (10 + 2 + n)), μ, μ, ?_, ?_, R⟩
        · simp only [M4_person]
          rw [M4_unknown_eq N hp a1 a2, Option.bind_some, M4_other_eq N hw (by decide), Option.bind_some, M4_firstOf_eq N hu ht, Option.bind_some, fst0 k t, if_pos (by decide), if_pos rfl, M1_at_eq N 10 n hn, Option.bind_some, if_pos (kdo (Or.inl rfl) hn), if_pos hw, M2_lacking_eq N _ hq]
          rfl
        · simp only [M5_person]
          rw [M5_isOne_eq N hp a2, Option.bind_some, if_pos kk, if_pos (by decide), if_neg (by decide), M5_isIn_eq N hw (by decide) (by decide), Option.bind_some, if_neg (show ¬ ((0 : Int) ≤ 7 ∧ (7 : Int) ≤ 5) by decide), if_pos (by decide), if_pos rfl, if_pos hw, if_neg (by decide), if_pos hw, if_pos (by decide), M5_lacksIn_eq N 1 n μ hn h6 hq]
          rfl
    · obtain ⟨t1, t2⟩ := oth_no t
      refine Op_ref N R (c := -2) (by decide) ?_ ?_
      · simp only [M4_person]
        rw [M4_unknown_eq N hp a1 a2, Option.bind_some, M4_other_eq N hw (by decide), Option.bind_some, M4_firstOf_eq N hu ht, Option.bind_some, fst2 k t, t1, if_pos (by decide), if_neg (by decide), rf4 N (by decide)]
      · intro ν hν
        have r1 : ν 1 = μ 1 := by rw [hν]; exact r4_c (by decide)
        simp only [M5_person]
        rw [M5_isOne_eq N hp (okR_congr a2 r1), Option.bind_some, r1, if_pos kk, if_pos (by decide), if_neg (by decide), M5_isIn_eq N hw (by decide) (by decide), Option.bind_some, if_neg (show ¬ (0 ≤ w ∧ w ≤ 5) by omega), if_pos (by decide), if_pos rfl, if_pos hw, if_neg (show ¬ w = 6 by omega), if_pos hw, if_neg (show ¬ w = 7 by omega), rf5 N (by decide)]
  · obtain ⟨k1, k2⟩ := unkZ_no k
    refine Op_ref N R (c := -1) (by decide) ?_ ?_
    · simp only [M4_person]
      rw [M4_unknown_eq N hp a1 a2, Option.bind_some, M4_other_eq N hw (by decide), Option.bind_some, M4_firstOf_eq N hu ht, Option.bind_some, fst1 k, k1, if_pos (by decide), if_neg (by decide), rf4 N (by decide)]
    · intro ν hν
      have r1 : ν 1 = μ 1 := by rw [hν]; exact r4_c (by decide)
      simp only [M5_person]
      rw [M5_isOne_eq N hp (okR_congr a2 r1), Option.bind_some, r1, if_neg k2, if_pos (by decide), if_pos rfl, rf5 N (by decide)]
/-- only the ROW's part changes -/
theorem Rel_row {μ ν : mm} (R : Rel μ) (h : relW ν) (hc : ∀ a, a ≠ 0 → a ≠ 6 → a ≠ 9 → a ≠ 46 → ν a = μ a) (h0 : ∀ j, j ≠ 9 → ν 0 j = μ 0 j) (h9 : ν 9 10 = μ 9 10) : Rel ν := by
  obtain ⟨⟨a1, a2, a3⟩, ⟨b1, b2⟩, ⟨c1, c2, c3⟩, -, e, f⟩ := R
  have k : ∀ a, a ≠ 0 → a ≠ 6 → a ≠ 9 → a ≠ 46 → ν a = μ a := hc
  have hpn : ∀ p, p < 8 → ν (10 + 2 + p) = μ (10 + 2 + p) := fun p hp => k _ (by omega) (by omega) (by omega) (by omega)
  have hpi : ∀ p, p < 8 → ν (32 + 2 + p) = μ (32 + 2 + p) := fun p hp => k _ (by omega) (by omega) (by omega) (by omega)
  have k1 := k 1 (by decide) (by decide) (by decide) (by decide)
  have k3 := k 3 (by decide) (by decide) (by decide) (by decide)
  refine ⟨⟨relO_congr a1 (k 10 (by decide) (by decide) (by decide) (by decide)) k1 hpn a2.1.2, okR_congr a2 k1, by rw [k1]; exact a3⟩, ⟨by rw [h9, h0 4 (by decide)]; exact b1, ?_⟩, ⟨by rw [k 44 (by decide) (by decide) (by decide) (by decide), h0 8 (by decide)]; exact c1, by rw [h0 8 (by decide)]; exact c2, fun j hj => ?_⟩, h, fun j h1 h6 => ?_, fun q hk => ?_⟩
  · rw [h0 4 (by decide)]
    rcases b2 with b | ⟨b, b3, b4, b5⟩
    · exact Or.inl b
    · exact Or.inr ⟨b, relO_congr b3 (k 32 (by decide) (by decide) (by decide) (by decide)) k3 hpi b4.1.2, okR_congr b4 k3, by rw [k3]; exact b5⟩
  · rw [h0 8 (by decide)] at hj
    rw [k 45 (by decide) (by decide) (by decide) (by decide), k 5 (by decide) (by decide) (by decide) (by decide)]
    exact c3 j hj
  · rw [k 47 (by decide) (by decide) (by decide) (by decide), k 7 (by decide) (by decide) (by decide) (by decide)]
    exact e j h1 h6
  · rw [k 20 (by decide) (by decide) (by decide) (by decide), k 31 (by decide) (by decide) (by decide) (by decide), k 42 (by decide) (by decide) (by decide) (by decide)]
    exact f q hk
theorem op_row (N : Nat) {μ : mm} (R : Rel μ) {v : Int} (hv : inR v) : Op (M4_row N v) (M5_row N v) μ := by
  obtain ⟨-, -, -, ⟨t1, t2, t3⟩, -⟩ := id R
  have ho := outZ_in v 0 99
  have e4 : M4_row N v μ = if outZ v 0 99 = 0 then (if μ 0 9 < 16 then some (μ 0 9 + 1, mu (mu μ 9 9 (μ 0 9 + 1)) 46 (μ 0 9).toNat v) else M4_refused N (-6) μ) else M4_refused N (outZ v 0 99) μ := by
    simp only [M4_row, J4_row_27, bnd]
    rw [M4_outside_eq N hv (by decide) (by decide), Option.bind_some, if_pos (show inR (outZ v 0 99) from by omega), rf4 N ho, rf4 N (by decide), t1, if_pos (show inR (μ 0 9) from by omega), if_pos (show inR (μ 0 9) from by omega), if_pos (show inR (-6) by decide), if_neg (show ¬ (-6 : Int) = 0 by decide)]
    by_cases o : outZ v 0 99 = 0
    · rw [if_pos o, if_pos o]
      by_cases c : μ 0 9 < 16
      · rw [if_pos c, if_pos c, if_pos (show inR (outZ v 0 99) from by omega), if_pos o, if_neg (show ¬ μ 0 9 < 0 by omega), if_neg (show ¬ 16 ≤ μ 0 9 by omega), if_pos (by omega), mu_c (by decide), mu_s, if_pos (show 0 ≤ μ 0 9 ∧ μ 0 9 < 16 by omega)]
      · rw [if_neg c, if_neg c, if_pos o]
    · rw [if_neg o, if_neg o, if_pos (show inR (outZ v 0 99) from by omega), if_neg o]
  have m5 : ∀ ν : mm, ν 0 9 = μ 0 9 → M5_row N v ν = if outZ v 0 99 = 0 then (if μ 0 9 < 16 then some (μ 0 9 + 1, mu (mu ν 6 (μ 0 9).toNat v) 0 9 (μ 0 9 + 1)) else M5_no N (-6) ν) else M5_no N (outZ v 0 99) ν := by
    intro ν hν
    simp only [M5_row, J5_row_24, bnd]
    rw [M5_wrongBy_eq N hv (by decide) (by decide), Option.bind_some, if_pos (show inR (outZ v 0 99) from by omega), rf5 N ho, rf5 N (by decide), hν, if_pos (show inR (μ 0 9) from by omega), if_pos (show inR (-6) by decide), if_neg (show ¬ (-6 : Int) = 0 by decide)]
    by_cases o : outZ v 0 99 = 0
    · rw [if_pos o, if_pos o]
      by_cases c : μ 0 9 < 16
      · rw [if_neg (show ¬ μ 0 9 = 16 by omega), if_pos c, if_pos (show inR (outZ v 0 99) from by omega), if_pos o, if_pos (by omega), mu_s, mu_c (show (0 : Nat) ≠ 6 by decide), hν]
      · rw [if_pos (show μ 0 9 = 16 by omega), if_neg c, if_pos o]
    · rw [if_neg o, if_neg o, if_pos (show inR (outZ v 0 99) from by omega), if_neg o]
  by_cases o : outZ v 0 99 = 0
  · have oo := outZ_0 o
    by_cases f : μ 0 9 < 16
    · refine ⟨μ 0 9 + 1, mu (mu μ 9 9 (μ 0 9 + 1)) 46 (μ 0 9).toNat v, mu (mu (mu (mu μ 9 9 (μ 0 9 + 1)) 46 (μ 0 9).toNat v) 6 (μ 0 9).toNat v) 0 9 (μ 0 9 + 1), ?_, ?_, ?_⟩
      · rw [e4, if_pos o, if_pos f]
      · rw [m5 _ (by rw [mu_c (by decide), mu_c (by decide)]), if_pos o, if_pos f]
      · refine Rel_row R ⟨?_, ?_, ?_⟩ ?_ ?_ ?_
        · unfold mu; repeat' split
          all_goals first | rfl | omega
        · have e : ∀ x : mm, mu x 0 9 (μ 0 9 + 1) 0 9 = μ 0 9 + 1 := fun x => mu_s
          rw [e]; omega
        · intro i hi
          have e : ∀ x : mm, mu x 0 9 (μ 0 9 + 1) 0 9 = μ 0 9 + 1 := fun x => mu_s
          rw [e] at hi
          rw [mu_c (by decide), mu_c (by decide), mu_c (show 6 ≠ 0 by decide)]
          by_cases q : i = (μ 0 9).toNat
          · subst q
            rw [mu_s, mu_s]
            exact ⟨rfl, oo⟩
          · rw [mu_j q, mu_c (by decide), mu_j q, mu_c (by decide), mu_c (by decide)]
            exact t3 i (by omega)
        · intro a h0 h6 h9 h46
          funext b
          rw [mu_c h0, mu_c h6, mu_c h46, mu_c h9]
        · intro i hi
          rw [mu_j hi, mu_c (by decide), mu_c (by decide), mu_c (by decide)]
        · rw [mu_c (by decide), mu_c (by decide), mu_c (by decide), mu_j (by decide)]
    · exact Op_ref N R (c := -6) (by decide) (by rw [e4, if_pos o, if_neg f]) (fun ν hν => by rw [m5 ν (by rw [hν, r4_c (by decide)]), if_pos o, if_neg f])
  · exact Op_ref N R (c := outZ v 0 99) (by omega) (by rw [e4, if_neg o]) (fun ν hν => by rw [m5 ν (by rw [hν, r4_c (by decide)]), if_neg o])
/-- the ROW emptied on both sides -/
theorem Rel_row0 {μ : mm} (R : Rel μ) : Rel (mu (mu μ 9 9 0) 0 9 0) := by
  refine Rel_row R ⟨?_, ?_, ?_⟩ ?_ ?_ ?_
  · rw [mu_c (by decide), mu_s, mu_s]
  · rw [mu_s]; decide
  · intro j hj
    rw [mu_s] at hj
    omega
  · intro a h0 h6 h9 h46
    funext b
    rw [mu_c h0, mu_c h9]
  · intro i hi
    rw [mu_j hi, mu_c (by decide)]
  · rw [mu_c (by decide), mu_j (by decide)]
theorem op_clear (N : Nat) {μ : mm} (R : Rel μ) : Op (M4_clear N) (M5_clear N) μ := by
  obtain ⟨-, -, -, ⟨t1, t2, t3⟩, -⟩ := id R
  refine ⟨μ 0 9, mu μ 9 9 0, mu (mu μ 9 9 0) 0 9 0, ?_, ?_, Rel_row0 R⟩
  · simp only [M4_clear, bnd]
    rw [t1]
  · simp only [M5_clear, bnd]
    rw [mu_c (by decide)]
theorem op_judge_loop (N : Nat) {μ ν : mm} (R1 : relO 10 1 μ) (ok : okR μ 1) (W : relW μ) (h1 : ν 1 = μ 1) (h6 : ν 6 = μ 6) : ∀ (k i : Nat), (i : Int) ≤ μ 0 9 → μ 0 9 < (i : Int) + k → ∃ r, L4_judge_5 N k (-9) (i : Int) μ = some (r, mu μ 9 9 0) ∧ L5_judge_12 N k (μ 0 9) (i : Int) ν = some (r, ν) := by
  have hm := ok.1
  have e := R1.1
  obtain ⟨t1, t2, t3⟩ := W
  have ok' := okR_congr ok h1
  intro k
  induction k with
  | zero => intro p h1 h2; omega
  | succ k ih =>
    intro i hi hk
    rw [L4_judge_5, L5_judge_12, t1, if_pos (show inR (i : Int) ∧ inR (μ 0 9) from by omega), if_pos (show inR (i : Int) ∧ inR (μ 0 9) from by omega)]
    by_cases c : μ 0 9 ≤ (i : Int)
    · rw [if_pos c, if_pos c]
      exact ⟨-9, rfl, rfl⟩
    · have stop : ∀ j : Nat, L4_judge_5 N k (j : Int) ((j : Int) + 1) μ = some ((j : Int), mu μ 9 9 0) ∨ ¬ j = i := by
        intro j
        by_cases q : j = i
        · subst q
          left
          obtain ⟨k', rfl⟩ : ∃ k', k = k' + 1 := ⟨k - 1, by omega⟩
          rw [L4_judge_5, t1, if_pos (show inR ((j : Int) + 1) ∧ inR (μ 0 9) from by omega), if_pos (show inR ((j : Int) + 1) from by omega), if_pos (show inR (j : Int) from by omega), if_pos (show 0 ≤ (j : Int) by omega)]
          split
          · rfl
          · split <;> rfl
        · exact Or.inr q
      have stop' : L4_judge_5 N k (i : Int) ((i : Int) + 1) μ = some ((i : Int), mu μ 9 9 0) := (stop i).resolve_right (fun h => h rfl)
      have gi : inR (i : Int) := by omega
      rw [if_neg c, if_neg c, if_pos gi, if_neg (show ¬ 16 ≤ (i : Int) by omega), if_pos (show inR (-9) by decide), if_neg (by decide), M1_knows_eq N 10 gi (by rw [e]; exact hm), e, Option.bind_some, M5_isOne_eq N gi ok', Option.bind_some, h1, h6]
      simp only [J4_judge_57, J4_judge_59]
      by_cases d : 0 ≤ (i : Int) ∧ (i : Int) < μ 1 0
      · have hn : i < 8 := by omega
        have hq := (offP R1 ok d.2).2.2.2.1
        have hf := R1.2.2.2.2 i d.2 3 (by decide)
        have hw := t3 i (by omega)
        rw [if_pos d, if_pos (by decide), if_neg (by decide), if_pos (by decide), if_neg (by decide), M1_at_eq N 10 i hn, Option.bind_some, if_pos (kdo (Or.inl rfl) hn), if_pos (show 0 ≤ (i : Int) ∧ (i : Int) < 16 by omega), if_pos (show 0 ≤ (i : Int) ∧ (i : Int) < 16 by omega), if_pos (ixg hn (by decide)), ix3, hf, show ((i : Int)).toNat = i from rfl, hw.1, if_pos (show inR (μ (10 + 2 + i) 3) ∧ inR (μ 6 i) from by omega), if_pos (show inR (μ (10 + 2 + i) 3) ∧ inR (μ 6 i) from by omega)]
        by_cases f : μ (10 + 2 + i) 3 = μ 6 i
        · rw [if_pos f, if_pos f]
          exact ih (i + 1) (by omega) (by omega)
        · rw [if_neg f, if_neg f]
          exact ⟨i, stop', rfl⟩
      · rw [if_neg d, if_pos (by decide), if_pos rfl, if_pos (by decide), if_pos rfl]
        exact ⟨i, stop', rfl⟩
theorem op_judge (N : Nat) (hN : 17 ≤ N) {μ : mm} (R : Rel μ) : Op (M4_judge N) (M5_judge N) μ := by
  obtain ⟨⟨a1, a2, a3⟩, -, -, W, -⟩ := id R
  have h2 := W.2.1
  obtain ⟨r, e1, e2⟩ := op_judge_loop N (ν := mu (mu μ 9 9 0) 0 9 0) a1 a2 W (by funext b; rw [mu_c (by decide), mu_c (by decide)]) (by funext b; rw [mu_c (by decide), mu_c (by decide)]) N 0 (by omega) (by omega)
  refine ⟨r, mu μ 9 9 0, mu (mu μ 9 9 0) 0 9 0, e1, ?_, Rel_row0 R⟩
  simp only [M5_judge, bnd]
  rw [show mu μ 9 9 0 0 9 = μ 0 9 from mu_c (by decide)]
  exact e2
theorem count_loop (N : Nat) {μ : mm} (R1 : relO 10 1 μ) (ok : okR μ 1) : ∀ (k p : Nat) (x : Int), (p : Int) ≤ μ 1 0 → μ 1 0 < (p : Int) + k → ∃ r, L1_allWithMatter_4 N k 10 x (p : Int) μ = some r ∧ L5_count_90 N k x (p : Int) μ = some r := by
  have hm := ok.1
  have e := R1.1
  intro k
  induction k with
  | zero => intro p x h1 h2; omega
  | succ k ih =>
    intro p x h1 h2
    have gg : inR (p : Int) ∧ inR (μ 1 0) := by omega
    rw [L1_allWithMatter_4, L5_count_90, e, if_pos gg, if_pos gg]
    by_cases c : μ 1 0 ≤ (p : Int)
    · rw [if_pos c, if_pos c]
      exact ⟨x, rfl, rfl⟩
    · have hp : p < 8 := by omega
      have hq := (offP R1 ok (n := p) (by omega)).2.2.2.1
      have hf := R1.2.2.2.2 p (by omega) 3 (by decide)
      rw [if_neg c, if_neg c, M1_at_eq N 10 p hp, Option.bind_some, if_pos (kdo (Or.inl rfl) hp), if_pos (ixg hp (by decide)), ix3, hf, if_pos (show inR (μ (10 + 2 + p) 3) from by omega), if_pos (show inR (μ (10 + 2 + p) 3) from by omega)]
      simp only [J1_allWithMatter_26, J5_count_119, bnd]
      by_cases d : μ (10 + 2 + p) 3 ≤ 0
      · rw [if_pos d, if_pos d, show x + 0 = x by omega]
        exact ih (p + 1) x (by omega) (by omega)
      · rw [if_neg d, if_neg d]
        exact ih (p + 1) (x + 1) (by omega) (by omega)
theorem op_count (N : Nat) (hN : 9 ≤ N) {μ : mm} (R : Rel μ) {w : Int} (hw : inR w) : OpR (M4_count N w) (M5_count N w) μ := by
  obtain ⟨⟨a1, a2, a3⟩, -, ⟨c1, -⟩, ⟨d1, -⟩, e, -⟩ := id R
  have hm := a2.1
  by_cases c : 11 ≤ w ∧ w ≤ 16
  · obtain ⟨j, hj⟩ := Int.eq_ofNat_of_zero_le (show 0 ≤ w - 10 by omega)
    refine ⟨μ 7 j, ?_, ?_⟩
    · simp only [M4_count, bnd]
      rw [if_pos hw, if_neg (show ¬ w < 11 by omega), if_pos hw, if_neg (show ¬ 16 < w by omega), if_pos (show inR (w - 10) from by omega), if_neg (show ¬ 7 ≤ w - 10 by omega), if_pos (show 0 ≤ w - 10 ∧ w - 10 < 7 by omega), hj, show ((j : Int)).toNat = j from rfl, e j (by omega) (by omega)]
    · simp only [M5_count]
      rw [M5_isIn_eq N hw (by decide) (by decide), Option.bind_some, if_pos c, if_pos (by decide), if_neg (by decide), if_pos (show 0 ≤ w - 10 ∧ w - 10 < 7 by omega), hj, show ((j : Int)).toNat = j from rfl]
  · have e4 : M4_count N w μ = J4_count_37 N w μ := by
      simp only [M4_count]
      rw [if_pos hw]
      by_cases d : w < 11
      · rw [if_pos d]
      · rw [if_neg d, if_pos hw, if_pos (show 16 < w by omega)]
    unfold OpR
    rw [e4]
    simp only [J4_count_37, M5_count]
    rw [M5_isIn_eq N hw (by decide) (by decide), Option.bind_some, if_neg c, if_pos (show inR 0 by decide), if_pos rfl, if_pos hw, if_pos hw]
    by_cases c0 : w = 0
    · rw [if_pos c0, if_pos c0, if_pos (by omega), c0]
      exact ⟨_, rfl, by rw [a1.1]; rfl⟩
    · rw [if_neg c0, if_neg c0]
      by_cases c1' : w = 1
      · rw [if_pos c1', if_pos c1', if_pos (by omega), c1']
        exact ⟨_, rfl, by rw [a1.2.2.2.1]; rfl⟩
      · rw [if_neg c1', if_neg c1']
        by_cases c2 : w = 2
        · rw [if_pos c2, if_pos c2, if_pos (by omega), c2]
          exact ⟨_, rfl, by rw [a1.2.1]; rfl⟩
        · rw [if_neg c2, if_neg c2]
          by_cases c3 : w = 3
          · rw [if_pos c3, if_pos c3, if_pos (by omega), c3]
            exact ⟨_, rfl, by rw [a1.2.2.1]; rfl⟩
          · rw [if_neg c3, if_neg c3]
            by_cases c4 : w = 4
            · have e2 := M5_allOf_eq N 1 2 (by decide) hN (μ := μ) hm
              rw [show ((2 : Nat) : Int) = 2 from rfl] at e2
              rw [if_pos c4, if_pos c4, M1_allHas_eq N (Or.inl rfl) hN (by rw [a1.1]; exact hm), Option.bind_some, e2, Option.bind_some, sum_one a1 2 (by decide)]
              exact ⟨_, rfl, rfl⟩
            · rw [if_neg c4, if_neg c4]
              by_cases c5 : w = 5
              · obtain ⟨r, f1, f2⟩ := count_loop N a1 a2 N 0 0 (by omega) (by omega)
                rw [if_pos c5, if_pos c5, M1_allWithMatter]
                exact ⟨r, by rw [show ((0 : Nat) : Int) = 0 from rfl] at f1; rw [f1]; rfl, f2⟩
              · rw [if_neg c5, if_neg c5]
                by_cases c6 : w = 6
                · rw [if_pos c6, if_pos c6, d1]
                  exact ⟨_, rfl, rfl⟩
                · rw [if_neg c6, if_neg c6]
                  by_cases c7 : w = 7
                  · rw [if_pos c7, if_pos c7, c1]
                    exact ⟨_, rfl, rfl⟩
                  · rw [if_neg c7, if_neg c7]
                    exact ⟨_, rfl, rfl⟩
