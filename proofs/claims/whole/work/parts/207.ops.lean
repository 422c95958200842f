theorem r4_c {c : Int} {μ : mm} {a : Nat} (h : a ≠ 47) : r4 c μ a = μ a := funext fun _ => mu_c h
theorem unkZ_no {μ : mm} {p : Int} (h : ¬ unkZ μ p = 0) : unkZ μ p = -1 ∧ ¬ (0 ≤ p ∧ p < μ 1 0) := by
  refine ⟨?_, fun z => h (if_pos z)⟩
  unfold unkZ at h ⊢
  split at h <;> simp_all
theorem fst0 {a b : Int} (ha : a = 0) (hb : b = 0) : fstZ a b 0 = 0 := by unfold fstZ; rw [if_pos ha, if_pos hb]
theorem fst1 {a b c : Int} (ha : ¬ a = 0) : fstZ a b c = a := if_neg ha
theorem fst2 {a b c : Int} (ha : a = 0) (hb : ¬ b = 0) : fstZ a b c = b := by unfold fstZ; rw [if_pos ha, if_neg hb]
theorem fst3 {a b c : Int} (ha : a = 0) (hb : b = 0) : fstZ a b c = c := by unfold fstZ; rw [if_pos ha, if_pos hb]
/-- from an office step of `now' to the whole relation -/
theorem Rel_off {μ ν : mm} (R : Rel μ) (h : relO 10 1 ν ∧ okR ν 1 ∧ ν 1 1 ≤ 999) (hf : offF 10 μ ν) : Rel ν :=
  Rel_now R h (fun a h0 h1 h10 h12 _ => hf a h1 h10 h12) (fun j _ _ => by rw [hf 0 (by decide) (by decide) (by decide)])
theorem op_fills (N : Nat) {μ : mm} (R : Rel μ) {v : Int} (hv : inR v) : Op (M4_fills N v) (M5_fills N v) μ := by
  obtain ⟨⟨a1, a2, a3⟩, rest⟩ := id R
  have ho := outZ_in v 0 99
  have h2 := a2.2.2.1
  by_cases o : outZ v 0 99 = 0
  · have oo := outZ_0 o
    rcases off_fill N (Or.inl rfl) a1 a2 a3 (v := v) (by omega) with ⟨c, e⟩ | ⟨c, μ1, e, er, q1, q2, q3, q4, q5⟩
    · refine Op_ref N R (c := -6) (by decide) ?_ ?_
      · simp only [M4_fills]
        rw [M4_outside_eq N hv (by decide) (by decide), Option.bind_some, o, if_pos (by decide), if_pos rfl, e, Option.bind_some]
        dsimp only
        rw [if_pos (by decide), if_pos rfl, M4_refused_eq N (by decide)]
        rfl
      · intro ν hν
        simp only [M5_fills, J5_fills_29, bnd]
        rw [M5_wrongBy_eq N hv (by decide) (by decide), Option.bind_some, o, if_pos (by decide), if_pos rfl, hν, r4_c (by decide), if_pos (by omega), if_neg c, if_pos (by decide), if_neg (by decide), M5_no_eq N (by decide)]
        rfl
    · refine ⟨μ 1 2 + v, μ1, mu μ1 1 2 (μ 1 2 + v), ?_, ?_, ?_⟩
      · simp only [M4_fills]
        rw [M4_outside_eq N hv (by decide) (by decide), Option.bind_some, o, if_pos (by decide), if_pos rfl, e, Option.bind_some]
        dsimp only
        rw [if_pos (by decide), if_neg (by decide), q4]
      · simp only [M5_fills, J5_fills_29, bnd]
        rw [M5_wrongBy_eq N hv (by decide) (by decide), Option.bind_some, o, if_pos (by decide), if_pos rfl, er, if_pos (by omega), if_pos c, if_pos (by decide), if_pos rfl, mu_s]
      · refine Rel_off R ⟨q1, q2, q3⟩ (fun a h1 h10 h12 => ?_)
        rw [← q5 a h1 h10 h12]
        exact funext fun b => mu_c h1
  · refine Op_ref N R (c := outZ v 0 99) (by omega) ?_ ?_
    · simp only [M4_fills]
      rw [M4_outside_eq N hv (by decide) (by decide), Option.bind_some, if_pos (show inR (outZ v 0 99) from by omega), if_neg o, M4_refused_eq N (by omega)]
      rfl
    · intro ν hν
      simp only [M5_fills, J5_fills_29, bnd]
      rw [M5_wrongBy_eq N hv (by decide) (by decide), Option.bind_some, if_pos (show inR (outZ v 0 99) from by omega), if_neg o, if_pos (show inR (outZ v 0 99) from by omega), if_neg o, M5_no_eq N (by omega)]
      rfl
theorem op_issues (N : Nat) {μ : mm} (R : Rel μ) {p v : Int} (hp : inR p) (hv : inR v) : Op (M4_issues N p v) (M5_issues N p v) μ := by
  obtain ⟨⟨a1, a2, a3⟩, rest⟩ := id R
  have hm := a2.1
  have h2 := a2.2.2.1
  have hu := unkZ_in μ p
  have ho := outZ_in v 0 99
  have e4 : M4_issues N p v μ = if fstZ (unkZ μ p) (outZ v 0 99) 0 = 0 then ((M1_issue N 10 p v μ).bind fun (q5 : (Int × mm)) => if inR q5.1 then (if q5.1 = 0 then M4_refused N (-3) q5.2 else (some ((q5.2 10 3), q5.2))) else none) else M4_refused N (fstZ (unkZ μ p) (outZ v 0 99) 0) μ := by
    have hf := fstZ_in (c := 0) hu ho (by decide)
    have hr : ∀ c : Int, -6 ≤ c ∧ c ≤ 0 → ∀ ν : mm, ((M4_refused N c ν).bind fun (q7 : (Int × mm)) => some (q7.1, q7.2)) = M4_refused N c ν := fun c hc ν => by rw [M4_refused_eq N hc]; rfl
    simp only [M4_issues]
    rw [M4_unknown_eq N hp a1 a2, Option.bind_some, M4_outside_eq N hv (by decide) (by decide), Option.bind_some, M4_firstOf_eq N hu ho, Option.bind_some, if_pos (show inR (fstZ (unkZ μ p) (outZ v 0 99) 0) from by omega), hr _ hf]
    simp only [hr (-3) (by decide)]
  by_cases k : unkZ μ p = 0
  · have kk := unkZ_0 k
    by_cases o : outZ v 0 99 = 0
    · have oo := outZ_0 o
      rw [fst0 k o, if_pos rfl] at e4
      obtain ⟨n, rfl⟩ := Int.eq_ofNat_of_zero_le kk.1
      have hn : n < 8 := by omega
      have hq := a2.2.2.2.2 n kk.2
      have hq2 : 0 ≤ μ 1 (4 + 6 * n + 2) ∧ μ 1 (4 + 6 * n + 2) ≤ 99 := hq.2.2.1
      have m5 : ∀ ν : mm, ν 1 = μ 1 → M5_issues N n v ν = if μ 1 2 < v ∨ 99 < μ 1 (4 + 6 * n + 2) + v then M5_no N (-3) ν else ((M5_issuesIn N 1 n v ν).bind fun (q5 : mm) => some ((q5 1 2), q5)) := by
        intro ν hν
        simp only [M5_issues, J5_issues_19, J5_issues_51, J5_issues_54]
        rw [M5_isOne_eq N hp (okR_congr a2 hν), Option.bind_some, hν, if_pos kk, if_pos (by decide), if_neg (by decide), M5_wrongBy_eq N hv (by decide) (by decide), Option.bind_some, o, if_pos (by decide), if_pos rfl, if_pos (show inR v ∧ inR (μ 1 2) from ⟨hv, by omega⟩), if_pos (show inR (-3) from by decide), if_neg (show ¬ (-3 : Int) = 0 by decide), M5_no_eq N (by decide), Option.bind_some, if_pos (ixg hn (by decide)), ix2, if_pos (show inR (μ 1 (4 + 6 * n + 2) + v) from by omega)]
        by_cases c1 : μ 1 2 < v
        · rw [if_pos c1, if_pos (Or.inl c1)]
        · rw [if_neg c1]
          by_cases c2 : μ 1 (4 + 6 * n + 2) + v ≤ 99
          · rw [if_pos c2, if_pos (by decide), if_pos (by decide), if_neg (by omega)]
          · rw [if_neg c2, if_pos (by omega)]
      rcases off_issue N (Or.inl rfl) a1 a2 a3 (v := v) hp (by omega) with ⟨c, e⟩ | ⟨c, μ1, μ2, e, er, em, q1, q2, q3, q4, q5, q6⟩
      · rw [Int.toNat_natCast] at c
        refine Op_ref N R (c := -3) (by decide) ?_ ?_
        · rw [e4, e, Option.bind_some]
          dsimp only
          rw [if_pos (by decide), if_pos rfl]
        · intro ν hν
          rw [m5 ν (by rw [hν]; exact r4_c (by decide)), if_pos (by omega)]
      · rw [Int.toNat_natCast] at c
        refine ⟨μ1 10 3, μ1, μ2, ?_, ?_, Rel_off R ⟨q1, q2, q3⟩ q6⟩
        · rw [e4, e, Option.bind_some]
          dsimp only
          rw [if_pos (by decide), if_neg (by decide)]
        · rw [m5 μ1 er, if_neg (by omega), em, Option.bind_some, q4]
    · refine Op_ref N R (c := outZ v 0 99) (by omega) ?_ ?_
      · rw [e4, fst2 k o, if_neg o]
      · intro ν hν
        simp only [M5_issues, J5_issues_19, J5_issues_51, J5_issues_54]
        have r1 : ν 1 = μ 1 := by rw [hν]; exact r4_c (by decide)
        rw [M5_isOne_eq N hp (okR_congr a2 r1), Option.bind_some, r1, if_pos kk, if_pos (by decide), if_neg (by decide), M5_wrongBy_eq N hv (by decide) (by decide), Option.bind_some, if_pos (show inR (outZ v 0 99) from by omega), if_neg o, if_pos (show inR (outZ v 0 99) from by omega), if_neg o, M5_no_eq N (by omega)]
        rfl
  · obtain ⟨k1, k2⟩ := unkZ_no k
    refine Op_ref N R (c := -1) (by decide) ?_ ?_
    · rw [e4, fst1 k, k1, if_neg (by decide)]
    · intro ν hν
      have r1 : ν 1 = μ 1 := by rw [hν]; exact r4_c (by decide)
      simp only [M5_issues, J5_issues_19, J5_issues_51, J5_issues_54]
      rw [M5_isOne_eq N hp (okR_congr a2 r1), Option.bind_some, r1, if_neg k2, if_pos (by decide), if_pos rfl, if_pos (by decide), if_neg (by decide), if_pos (by decide), if_neg (by decide), M5_no_eq N (by decide)]
      rfl
theorem op_returns (N : Nat) {μ : mm} (R : Rel μ) {p : Int} (hp : inR p) : Op (M4_returns N p) (M5_returns N p) μ := by
  obtain ⟨⟨a1, a2, a3⟩, rest⟩ := id R
  have hm := a2.1
  have hu := unkZ_in μ p
  have hr : ∀ c : Int, -6 ≤ c ∧ c ≤ 0 → ∀ ν : mm, ((M4_refused N c ν).bind fun (q7 : (Int × mm)) => some (q7.1, q7.2)) = M4_refused N c ν := fun c hc ν => by rw [M4_refused_eq N hc]; rfl
  by_cases k : unkZ μ p = 0
  · have kk := unkZ_0 k
    obtain ⟨n, rfl⟩ := Int.eq_ofNat_of_zero_le kk.1
    have hn : n < 8 := by omega
    have hq := ok12 a1 a2 kk.2
    have hq2 := hq.2.2.1
    have hf : μ 1 (4 + 6 * n + 2) = μ (10 + 2 + n) 2 := a1.2.2.2.2 n kk.2 2 (by decide)
    have hf' : μ (10 + 2 + n) 2 = μ (12 + n) 2 := by rw [show 10 + 2 + n = 12 + n by omega]
    have e4 : M4_returns N n μ = if μ (12 + n) 2 = 0 then M4_refused N (-3) μ else ((M1_handIn N 10 n μ).bind fun (q4 : (Int × mm)) => some ((q4.2 10 3), q4.2)) := by
      simp only [M4_returns, J4_returns_27]
      rw [M4_unknown_eq N hp a1 a2, Option.bind_some, k, if_pos (by decide), if_pos rfl, M1_at_eq N 10 n hn, Option.bind_some, if_pos (kd12 hn), hf', if_pos (by omega), if_pos (show inR (-3) by decide), if_neg (show ¬ (-3 : Int) = 0 by decide), hr (-3) (by decide), if_pos (show inR 0 by decide), if_pos rfl]
    have m5 : ∀ ν : mm, ν 1 = μ 1 → M5_returns N n ν = if μ (12 + n) 2 = 0 then M5_no N (-3) ν else ((M5_handsIn N 1 n ν).bind fun (q5 : mm) => some ((q5 1 2), q5)) := by
      intro ν hν
      simp only [M5_returns]
      rw [M5_isOne_eq N hp (okR_congr a2 hν), Option.bind_some, hν, if_pos kk, if_pos (by decide), if_neg (by decide), if_pos (ixg hn (by decide)), ix2, hf, hf', if_pos (by omega), M5_no_eq N (by decide)]
      rfl
    by_cases c : μ (12 + n) 2 = 0
    · exact Op_ref N R (c := -3) (by decide) (by rw [e4, if_pos c]) (fun ν hν => by rw [m5 ν (by rw [hν]; exact r4_c (by decide)), if_pos c])
    · rcases off_hand N (Or.inl rfl) a1 a2 a3 hp with ⟨c', e⟩ | ⟨-, μ1, μ2, e, er, em, q1, q2, q3, q4, q5, q6⟩
      · exact absurd kk c'
      · refine ⟨μ1 10 3, μ1, μ2, ?_, ?_, Rel_off R ⟨q1, q2, q3⟩ q6⟩
        · rw [e4, if_neg c, e, Option.bind_some]
        · rw [m5 μ1 er, if_neg c, em, Option.bind_some, q4]
  · obtain ⟨k1, k2⟩ := unkZ_no k
    refine Op_ref N R (c := -1) (by decide) ?_ ?_
    · simp only [M4_returns, J4_returns_27]
      rw [M4_unknown_eq N hp a1 a2, Option.bind_some, k1, if_pos (by decide), if_neg (by decide), if_pos (by decide), if_neg (by decide), hr (-1) (by decide)]
    · intro ν hν
      have r1 : ν 1 = μ 1 := by rw [hν]; exact r4_c (by decide)
      simp only [M5_returns]
      rw [M5_isOne_eq N hp (okR_congr a2 r1), Option.bind_some, r1, if_neg k2, if_pos (by decide), if_pos rfl, M5_no_eq N (by decide)]
      rfl
