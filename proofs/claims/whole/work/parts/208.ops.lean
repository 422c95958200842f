theorem op_turn (N : Nat) {μ : mm} (R : Rel μ) {p v w : Int} (hp : inR p) (hv : inR v) (hw : inR w) : Op (M4_turn N p v w) (M5_turn N p v w) μ := by
  obtain ⟨⟨a1, a2, a3⟩, rest⟩ := id R
  have hm := a2.1
  have hu := unkZ_in μ p
  have ht := othZ_in v 5
  have ho := outZ_in w 0 9
  have e4 : M4_turn N p v w μ = if fstZ (unkZ μ p) (othZ v 5) (outZ w 0 9) = 0 then ((M1_at N 10 p μ).bind fun (q6 : Nat) => if kd q6 = 5 then (some ((10 * (μ q6 0)) + (μ q6 1), mu (mu μ q6 0 v) q6 1 w)) else none) else M4_refused N (fstZ (unkZ μ p) (othZ v 5) (outZ w 0 9)) μ := by
    have hf := fstZ_in hu ht ho
    simp only [M4_turn, bnd]
    rw [M4_unknown_eq N hp a1 a2, Option.bind_some, M4_other_eq N hv (by decide), Option.bind_some, M4_outside_eq N hw (by decide) (by decide), Option.bind_some, M4_firstOf_eq N hu ht, Option.bind_some, if_pos (show inR (fstZ (unkZ μ p) (othZ v 5) (outZ w 0 9)) from by omega), M4_refused_eq N hf]
    rfl
  by_cases k : unkZ μ p = 0
  · have kk := unkZ_0 k
    obtain ⟨n, rfl⟩ := Int.eq_ofNat_of_zero_le kk.1
    have hn : n < 8 := by omega
    by_cases t : othZ v 5 = 0
    · have tt := othZ_0 t
      by_cases o : outZ w 0 9 = 0
      · have oo := outZ_0 o
        rw [fst3 k t, o, if_pos rfl] at e4
        have hq := ok12 a1 a2 kk.2
        have hf : at6 μ 1 n (μ (12 + n)) := by
          have := a1.2.2.2.2 n kk.2
          rwa [show 10 + 2 + n = 12 + n by omega] at this
        refine ⟨10 * μ (12 + n) 0 + μ (12 + n) 1, mu (mu μ (12 + n) 0 v) (12 + n) 1 w, mu (mu (mu (mu μ (12 + n) 0 v) (12 + n) 1 w) 1 (4 + 6 * n + 0) v) 1 (4 + 6 * n + 1) w, ?_, ?_, ?_⟩
        · rw [e4, M1_at_eq N 10 n hn, Option.bind_some, if_pos (kd12 hn), show 10 + 2 + n = 12 + n by omega]
        · have r1 : (mu (mu μ (12 + n) 0 v) (12 + n) 1 w) 1 = μ 1 := funext fun b => by rw [mu_c (by omega), mu_c (by omega)]
          simp only [M5_turn, J5_turn_33, bnd]
          rw [M5_isOne_eq N hp (okR_congr a2 r1), Option.bind_some, r1, if_pos kk, if_pos (by decide), if_neg (by decide), M5_isIn_eq N hv (by decide) (by decide), Option.bind_some, if_pos tt, if_pos (by decide), if_neg (by decide), M5_wrongBy_eq N hw (by decide) (by decide), Option.bind_some, o, if_pos (by decide), if_pos rfl, if_pos (ixg hn (by decide)), if_pos (ixg hn (by decide)), if_pos (ixg hn (by decide)), if_pos (ixg hn (by decide)), ix0, ix1, hf 0 (by decide), hf 1 (by decide)]
        · refine Rel_off R (off_put a1 a2 a3 n (fu (fu (μ (12 + n)) 0 v) 1 w) ⟨tt, oo, hq.2.2⟩ ?_ ?_ ?_ ?_ ?_ ?_ ?_) ?_
          · intro k hk; unfold mu fu; repeat' split
            all_goals first | rfl | omega | (rw [show 10 + 2 + n = 12 + n by omega])
          · intro k hk
            have := hf k hk
            unfold mu fu; repeat' split
            all_goals first | rfl | omega
          · intro p' hp' k hk
            constructor
            · unfold mu; repeat' split
              all_goals first | rfl | omega
            · unfold mu; repeat' split
              all_goals first | rfl | omega
          · constructor <;> (unfold mu; repeat' split) <;> first | rfl | omega
          · have := a2.2.2.1; have := a1.2.1; refine ⟨?_, ?_, ?_⟩ <;> (unfold mu; repeat' split) <;> omega
          · have := a2.2.2.2.1; have := a1.2.2.1; refine ⟨?_, ?_, ?_⟩ <;> (unfold mu; repeat' split) <;> omega
          · constructor <;> (unfold mu; repeat' split) <;> first | rfl | omega
          · intro a h1 h10 h12
            funext b
            rw [mu_c h1, mu_c h1, mu_c (by omega), mu_c (by omega)]
      · refine Op_ref N R (c := outZ w 0 9) (by omega) ?_ ?_
        · rw [e4, fst3 k t, if_neg o]
        · intro ν hν
          have r1 : ν 1 = μ 1 := by rw [hν]; exact r4_c (by decide)
          simp only [M5_turn, J5_turn_33, bnd]
          rw [M5_isOne_eq N hp (okR_congr a2 r1), Option.bind_some, r1, if_pos kk, if_pos (by decide), if_neg (by decide), M5_isIn_eq N hv (by decide) (by decide), Option.bind_some, if_pos tt, if_pos (by decide), if_neg (by decide), M5_wrongBy_eq N hw (by decide) (by decide), Option.bind_some, if_pos (show inR (outZ w 0 9) from by omega), if_neg o, M5_no_eq N (by omega)]
          rfl
    · have tn : othZ v 5 = -2 ∧ ¬ (0 ≤ v ∧ v ≤ 5) := by
        unfold othZ at t ⊢
        split at t <;> simp_all
      refine Op_ref N R (c := -2) (by decide) ?_ ?_
      · rw [e4, fst2 k t, tn.1, if_neg (by decide)]
      · intro ν hν
        have r1 : ν 1 = μ 1 := by rw [hν]; exact r4_c (by decide)
        simp only [M5_turn, J5_turn_33, bnd]
        rw [M5_isOne_eq N hp (okR_congr a2 r1), Option.bind_some, r1, if_pos kk, if_pos (by decide), if_neg (by decide), M5_isIn_eq N hv (by decide) (by decide), Option.bind_some, if_neg tn.2, if_pos (by decide), if_pos rfl, if_pos (by decide), if_neg (by decide), M5_no_eq N (by decide)]
        rfl
  · obtain ⟨k1, k2⟩ := unkZ_no k
    refine Op_ref N R (c := -1) (by decide) ?_ ?_
    · rw [e4, fst1 k, k1, if_neg (by decide)]
    · intro ν hν
      have r1 : ν 1 = μ 1 := by rw [hν]; exact r4_c (by decide)
      simp only [M5_turn, J5_turn_33, bnd]
      rw [M5_isOne_eq N hp (okR_congr a2 r1), Option.bind_some, r1, if_neg k2, if_pos (by decide), if_pos rfl, if_pos (by decide), if_neg (by decide), M5_no_eq N (by decide)]
      rfl
/-- only the letters' part changes -/
theorem Rel_txt {μ ν : mm} (R : Rel μ) (h : relT ν) (hc : ∀ a, a ≠ 0 → a ≠ 5 → a ≠ 44 → a ≠ 45 → ν a = μ a) (h0 : ∀ j, j ≠ 8 → ν 0 j = μ 0 j) : Rel ν := by
  obtain ⟨⟨a1, a2, a3⟩, ⟨b1, b2⟩, -, ⟨d1, d2, d3⟩, e, f⟩ := R
  have k : ∀ a, a ≠ 0 → a ≠ 5 → a ≠ 44 → a ≠ 45 → ν a = μ a := hc
  have hpn : ∀ p, p < 8 → ν (10 + 2 + p) = μ (10 + 2 + p) := fun p hp => k _ (by omega) (by omega) (by omega) (by omega)
  have hpi : ∀ p, p < 8 → ν (32 + 2 + p) = μ (32 + 2 + p) := fun p hp => k _ (by omega) (by omega) (by omega) (by omega)
  have k1 := k 1 (by decide) (by decide) (by decide) (by decide)
  have k3 := k 3 (by decide) (by decide) (by decide) (by decide)
  have k9 := k 9 (by decide) (by decide) (by decide) (by decide)
  refine ⟨⟨relO_congr a1 (k 10 (by decide) (by decide) (by decide) (by decide)) k1 hpn a2.1.2, okR_congr a2 k1, by rw [k1]; exact a3⟩, ⟨by rw [k9, h0 4 (by decide)]; exact b1, ?_⟩, h, ⟨by rw [k9, h0 9 (by decide)]; exact d1, by rw [h0 9 (by decide)]; exact d2, fun j hj => ?_⟩, fun j h1 h6 => ?_, fun q hk => ?_⟩
  · rw [h0 4 (by decide)]
    rcases b2 with b | ⟨b, b3, b4, b5⟩
    · exact Or.inl b
    · exact Or.inr ⟨b, relO_congr b3 (k 32 (by decide) (by decide) (by decide) (by decide)) k3 hpi b4.1.2, okR_congr b4 k3, by rw [k3]; exact b5⟩
  · rw [h0 9 (by decide)] at hj
    rw [k 46 (by decide) (by decide) (by decide) (by decide), k 6 (by decide) (by decide) (by decide) (by decide)]
    exact d3 j hj
  · rw [k 47 (by decide) (by decide) (by decide) (by decide), k 7 (by decide) (by decide) (by decide) (by decide)]
    exact e j h1 h6
  · rw [k 20 (by decide) (by decide) (by decide) (by decide), k 31 (by decide) (by decide) (by decide) (by decide), k 42 (by decide) (by decide) (by decide) (by decide)]
    exact f q hk
theorem op_letter (N : Nat) {μ : mm} (R : Rel μ) {c : Int} (hc : inR c) : Op (M4_letter N c) (M5_letter N c) μ := by
  obtain ⟨-, -, ⟨t1, t2, t3⟩, -⟩ := id R
  have ho := outZ_in c 0 255
  have hr : ∀ c : Int, -6 ≤ c ∧ c ≤ 0 → ∀ ν : mm, ((M4_refused N c ν).bind fun (q7 : (Int × mm)) => some (q7.1, q7.2)) = M4_refused N c ν := fun c hc ν => by rw [M4_refused_eq N hc]; rfl
  have e4 : M4_letter N c μ = if outZ c 0 255 = 0 then (if μ 44 1 < 96 then ((M3_add N c μ).bind fun (q4 : mm) => some ((q4 44 1), q4)) else M4_refused N (-6) μ) else M4_refused N (outZ c 0 255) μ := by
    simp only [M4_letter, J4_letter_28]
    rw [M4_outside_eq N hc (by decide) (by decide), Option.bind_some, if_pos (show inR (outZ c 0 255) from by omega), hr _ ho, hr (-6) (by decide), if_pos (show inR (μ 44 1) from by omega)]
    by_cases o : outZ c 0 255 = 0
    · rw [if_pos o, if_pos o, if_pos o, if_pos (show inR (-6) by decide), if_neg (show ¬ (-6 : Int) = 0 by decide), if_pos (show inR (outZ c 0 255) from by omega)]
    · rw [if_neg o, if_neg o, if_neg o, if_pos (show inR (outZ c 0 255) from by omega)]
  have m5 : ∀ ν : mm, ν 0 8 = μ 0 8 → M5_letter N c ν = if outZ c 0 255 = 0 then (if μ 0 8 = 96 then M5_no N (-6) ν else some (μ 0 8 + 1, mu (mu ν 5 (μ 0 8).toNat c) 0 8 (μ 0 8 + 1))) else M5_no N (outZ c 0 255) ν := by
    intro ν hν
    simp only [M5_letter, J5_letter_27, bnd]
    rw [if_pos hc, if_pos hc, hν, if_pos (show inR (μ 0 8) from by omega), M5_no_eq N (by decide), M5_no_eq N (by decide), M5_no_eq N ho]
    unfold outZ
    by_cases h1 : c < 0
    · rw [if_neg (show ¬ 0 ≤ c by omega), if_pos h1, if_neg (by decide)]; rfl
    · rw [if_pos (show 0 ≤ c by omega), if_neg h1]
      by_cases h2 : 255 < c
      · rw [if_pos h2, if_pos h2, if_neg (by decide)]; rfl
      · rw [if_neg h2, if_neg h2, if_pos rfl]
        by_cases h3 : μ 0 8 = 96
        · rw [if_pos h3, if_pos h3]; rfl
        · rw [if_neg h3, if_neg h3, if_pos (by omega), mu_s, mu_c (show (0 : Nat) ≠ 5 by decide), hν]
  by_cases o : outZ c 0 255 = 0
  · have oo := outZ_0 o
    by_cases f : μ 0 8 = 96
    · exact Op_ref N R (c := -6) (by decide) (by rw [e4, if_pos o, if_neg (by omega)]) (fun ν hν => by rw [m5 ν (by rw [hν, r4_c (by decide)]), if_pos o, if_pos f])
    · obtain ⟨j, hj⟩ := Int.eq_ofNat_of_zero_le t2.1
      refine ⟨μ 0 8 + 1, mu (mu μ 44 1 (μ 0 8 + 1)) 45 (μ 0 8).toNat c, mu (mu (mu (mu μ 44 1 (μ 0 8 + 1)) 45 (μ 0 8).toNat c) 5 (μ 0 8).toNat c) 0 8 (μ 0 8 + 1), ?_, ?_, ?_⟩
      · rw [e4, if_pos o, if_pos (by omega)]
        simp only [M3_add, bnd]
        rw [t1, if_pos (show inR (μ 0 8) from by omega), if_neg (show ¬ μ 0 8 < 0 by omega), if_pos (show inR (μ 0 8) from by omega), if_neg (show ¬ 96 ≤ μ 0 8 by omega), if_pos (show 0 ≤ μ 0 8 ∧ μ 0 8 < 96 by omega), Option.bind_some, mu_c (by decide), mu_s]
      · rw [m5 _ (by rw [mu_c (by decide), mu_c (by decide)]), if_pos o, if_neg f]
      · refine Rel_txt R ⟨?_, ?_, ?_⟩ ?_ ?_
        · unfold mu; repeat' split
          all_goals first | rfl | omega
        · have e : ∀ x : mm, mu x 0 8 (μ 0 8 + 1) 0 8 = μ 0 8 + 1 := fun x => mu_s
          rw [e]; omega
        · intro i hi
          have e : ∀ x : mm, mu x 0 8 (μ 0 8 + 1) 0 8 = μ 0 8 + 1 := fun x => mu_s
          rw [e] at hi
          rw [mu_c (by decide), mu_c (by decide), mu_c (show 5 ≠ 0 by decide)]
          by_cases q : i = (μ 0 8).toNat
          · subst q
            rw [mu_s, mu_s]
            exact ⟨rfl, oo⟩
          · rw [mu_j q, mu_c (by decide), mu_j q, mu_c (by decide), mu_c (by decide)]
            exact t3 i (by omega)
        · intro a h0 h5 h44 h45
          funext b
          rw [mu_c h0, mu_c h5, mu_c h45, mu_c h44]
        · intro i hi
          rw [mu_j hi, mu_c (by decide), mu_c (by decide), mu_c (by decide)]
  · exact Op_ref N R (c := outZ c 0 255) (by omega) (by rw [e4, if_neg o]) (fun ν hν => by rw [m5 ν (by rw [hν, r4_c (by decide)]), if_neg o])
