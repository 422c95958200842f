/-! steps of a COUNTER, between two memories: office 21 of one against row 1 of the other -/
def XS (f g : mm → Option (Int × mm)) (ξ ν : mm) : Prop := ∃ (r : Int) (ξ' ν' : mm), f ξ = some (r, ξ') ∧ g ν = some (r, ν') ∧ (r = 0 ∨ r = 1) ∧ (r = 1 → relX 21 1 ξ' ν' ∧ okR ν' 1 ∧ ν' 1 1 ≤ 999) ∧ (∀ a, a ≠ 21 → (a < 23 ∨ 31 ≤ a) → ξ' a = ξ a) ∧ (∀ a, a ≠ 1 → ν' a = ν a)
theorem XS_no {f g : mm → Option (Int × mm)} {ξ ν : mm} (h : f ξ = some (0, ξ)) (h' : g ν = some (0, ν)) : XS f g ξ ν :=
  ⟨0, ξ, ν, h, h', Or.inl rfl, fun z => absurd z (by decide), fun _ _ _ => rfl, fun _ _ => rfl⟩
theorem x_fill (N : Nat) {ξ ν : mm} (X : relX 21 1 ξ ν) (ok : okR ν 1) (hd : ν 1 1 ≤ 999) {v : Int} (hv : 0 ≤ v ∧ v ≤ 999) : XS (M1_fill N 21 v) (fun μ => if inR ((μ 1 2) + v) then (if ((μ 1 2) + v) ≤ 999 then (bnd (mu μ 1 2 ((μ 1 2) + v)) fun (μ5 : mm) => some (1, μ5)) else (some (0, μ))) else none) ξ ν := by
  have h2 := ok.2.2.1
  have e2 := X.2.1
  obtain ⟨x1, x2, x3, x4, x5⟩ := id X
  by_cases c : ν 1 2 + v ≤ 999
  · refine ⟨1, mu ξ 21 3 (ξ 21 3 + v), mu ν 1 2 (ν 1 2 + v), ?_, ?_, Or.inr rfl, fun _ => ⟨?_, ?_, ?_⟩, fun a h1 h2 => mu_row h1, fun a h1 => mu_row h1⟩
    · unfold M1_fill
      rw [if_pos (show inR (ξ 21 3 + v) by omega), if_pos (show ξ 21 3 + v ≤ 999 by omega)]
      rfl
    · show (if inR ((ν 1 2) + v) then (if ((ν 1 2) + v) ≤ 999 then (bnd (mu ν 1 2 ((ν 1 2) + v)) fun (μ5 : mm) => some ((1 : Int), μ5)) else (some (0, ν))) else none) = _
      rw [if_pos (show inR (ν 1 2 + v) by omega), if_pos c]
      rfl
    · refine ⟨by rw [mu_j (by decide), mu_j (by decide)]; exact x1, by rw [mu_s, mu_s]; omega, by rw [mu_j (by decide), mu_j (by decide)]; exact x3, by rw [mu_j (by decide), mu_j (by decide)]; exact x4, fun p hp k hk => ?_⟩
      rw [mu_j (by decide)] at hp
      rw [mu_j (by omega), mu_c (by omega)]
      exact x5 p hp k hk
    · obtain ⟨o1, o2, o3, o4, o5⟩ := ok
      refine ⟨by rw [mu_j (by decide)]; exact o1, by rw [mu_j (by decide)]; exact o2, by rw [mu_s]; omega, by rw [mu_j (by decide)]; exact o4, fun p hp => ?_⟩
      rw [mu_j (by decide)] at hp
      exact okP_congr (o5 p hp) (fun k hk => mu_j (by omega))
    · rw [mu_j (by decide)]
      exact hd
  · refine XS_no ?_ ?_
    · unfold M1_fill
      rw [if_pos (show inR (ξ 21 3 + v) by omega), if_neg (show ¬ ξ 21 3 + v ≤ 999 by omega)]
    · show (if inR ((ν 1 2) + v) then (if ((ν 1 2) + v) ≤ 999 then (bnd (mu ν 1 2 ((ν 1 2) + v)) fun (μ5 : mm) => some ((1 : Int), μ5)) else (some (0, ν))) else none) = _
      rw [if_pos (show inR (ν 1 2 + v) by omega), if_neg c]
theorem x_days (N : Nat) (hN : 200 ≤ N) {ξ ν : mm} (X : relX 21 1 ξ ν) (ok : okR ν 1) (hd : ν 1 1 ≤ 999) {v : Int} (hv : 0 ≤ v ∧ v ≤ 99) : XS (M1_daysCome N 21 v) (fun μ => (M5_isIn N v 1 60 μ).bind fun (q8 : Int) => if inR q8 then (if q8 = 0 then (some (0, μ)) else (if inR ((μ 1 1) + v) then (if ((μ 1 1) + v) ≤ 999 then ((M5_daysOn N 1 v μ).bind fun (q11 : mm) => some (1, q11)) else (some (0, μ))) else none)) else none) ξ ν := by
  have h1 := ok.2.1
  have e5 := X.2.2.2.1
  have e4 : M1_daysCome N 21 v ξ = if v < 1 then some (0, ξ) else if 60 < v then some (0, ξ) else if ν 1 1 + v ≤ 999 then ((M1_daysGoBy N 21 v ξ).bind fun (q4 : mm) => some (1, q4)) else some (0, ξ) := by
    unfold M1_daysCome
    rw [e5, if_pos (show inR v by omega), if_pos (show inR v by omega), if_pos (show inR (ν 1 1 + v) by omega)]
  have e : ((M5_isIn N v 1 60 ν).bind fun (q8 : Int) => if inR q8 then (if q8 = 0 then (some ((0 : Int), ν)) else (if inR ((ν 1 1) + v) then (if ((ν 1 1) + v) ≤ 999 then ((M5_daysOn N 1 v ν).bind fun (q11 : mm) => some (1, q11)) else (some (0, ν))) else none)) else none) = if v < 1 then some (0, ν) else if 60 < v then some (0, ν) else if ν 1 1 + v ≤ 999 then ((M5_daysOn N 1 v ν).bind fun (q4 : mm) => some (1, q4)) else some (0, ν) := by
    rw [M5_isIn_eq N (show inR v by omega) (by decide) (by decide), Option.bind_some, if_pos (show inR (ν 1 1 + v) by omega)]
    by_cases c1 : v < 1
    · rw [if_neg (show ¬ (1 ≤ v ∧ v ≤ 60) by omega), if_pos (by decide), if_pos rfl, if_pos c1]
    · rw [if_neg c1]
      by_cases c2 : 60 < v
      · rw [if_neg (show ¬ (1 ≤ v ∧ v ≤ 60) by omega), if_pos (by decide), if_pos rfl, if_pos c2]
      · rw [if_pos (show 1 ≤ v ∧ v ≤ 60 by omega), if_pos (by decide), if_neg (by decide), if_neg c2]
  by_cases c : 1 ≤ v ∧ v ≤ 60 ∧ ν 1 1 + v ≤ 999
  · obtain ⟨j, rfl⟩ := Int.eq_ofNat_of_zero_le hv.1
    have okO1 := okO_of X ok
    refine ⟨1, dysO 21 j ξ, days 1 j ν, ?_, e.trans ?_, Or.inr rfl, fun _ => ⟨relX_days X ok j (by omega), days_ok ok j (by omega), by rw [days_day]; omega⟩, fun a h1 h2 => dysO_c okO1 h1 (by omega) j, fun a h1 => funext fun b => days_c h1 j⟩
    · rw [e4, if_neg (by omega), if_neg (by omega), if_pos c.2.2, M1_daysGoBy_eq N (Or.inr (Or.inl rfl)) (by omega) okO1 j (by omega) (by omega), Option.bind_some]
    · rw [if_neg (by omega), if_neg (by omega), if_pos c.2.2, M5_daysOn_eq N 1 (by omega) ok j (by omega) (by omega), Option.bind_some]
  · refine XS_no ?_ (e.trans ?_)
    · rw [e4]
      by_cases c1 : v < 1
      · rw [if_pos c1]
      · rw [if_neg c1]
        by_cases c2 : 60 < v
        · rw [if_pos c2]
        · rw [if_neg c2, if_neg (by omega)]
    · by_cases c1 : v < 1
      · rw [if_pos c1]
      · rw [if_neg c1]
        by_cases c2 : 60 < v
        · rw [if_pos c2]
        · rw [if_neg c2, if_neg (by omega)]
theorem x_due (N : Nat) {ξ ν : mm} (X : relX 21 1 ξ ν) (ok : okR ν 1) (hd : ν 1 1 ≤ 999) {p v : Int} (hp : 0 ≤ p ∧ p ≤ 9) (hv : 0 ≤ v ∧ v ≤ 99) : XS (M1_setDue N 21 p v) (fun μ => (M5_isOne N p μ).bind fun (q96 : Int) => if inR q96 then (if q96 = 0 then (some (0, μ)) else (if inR v then (if v ≤ 60 then (if 0 ≤ ((4 + (6 * p)) + 3) ∧ ((4 + (6 * p)) + 3) < 52 then (bnd (mu μ 1 (((4 + (6 * p)) + 3)).toNat v) fun (μ100 : mm) => some (1, μ100)) else none) else (some (0, μ))) else none)) else none) ξ ν := by
  have hm := ok.1
  obtain ⟨x1, x2, x3, x4, x5⟩ := id X
  obtain ⟨n, rfl⟩ := Int.eq_ofNat_of_zero_le hp.1
  have hk := M1_knows_eq N 21 (p := (n : Int)) (μ := ξ) (by omega) (by omega)
  have h5 := M5_isOne_eq N (p := (n : Int)) (μ := ν) (by omega) ok
  by_cases k : (n : Int) < ν 1 0
  · have hn : n < 8 := by omega
    rw [if_pos (by omega)] at hk h5
    by_cases c : v ≤ 60
    · refine ⟨1, mu ξ (21 + 2 + n) 3 v, mu ν 1 (4 + 6 * n + 3) v, ?_, ?_, Or.inr rfl, fun _ => ⟨?_, ?_, ?_⟩, fun a h1 h2 => mu_row (by omega), fun a h1 => mu_row h1⟩
      · unfold M1_setDue
        rw [hk, Option.bind_some, if_pos (by decide), if_neg (by decide), if_pos (show inR v by omega), if_pos c, M1_at_eq N 21 n hn, Option.bind_some, if_pos (kdO (Or.inr (Or.inl rfl)) hn)]
        rfl
      · dsimp only
        rw [h5, Option.bind_some, if_pos (by decide), if_neg (by decide), if_pos (show inR v by omega), if_pos c, if_pos (ixg hn (by decide)), ix3]
        rfl
      · refine ⟨by rw [mu_c (by omega), mu_j (by omega)]; exact x1, by rw [mu_c (by omega), mu_j (by omega)]; exact x2, by rw [mu_c (by omega), mu_j (by omega)]; exact x3, by rw [mu_c (by omega), mu_j (by omega)]; exact x4, fun p' hp' k hk => ?_⟩
        rw [mu_j (by omega)] at hp'
        have a := x5 p' hp' k hk
        unfold mu
        by_cases d : p' = n ∧ k = 3
        · obtain ⟨rfl, rfl⟩ := d
          rw [if_pos ⟨rfl, rfl⟩, if_pos ⟨rfl, rfl⟩]
        · rw [if_neg (by omega), if_neg (by omega)]
          exact a
      · obtain ⟨o1, o2, o3, o4, o5⟩ := ok
        refine ⟨by rw [mu_j (by omega)]; exact o1, by rw [mu_j (by omega)]; exact o2, by rw [mu_j (by omega)]; exact o3, by rw [mu_j (by omega)]; exact o4, fun p' hp' => ?_⟩
        rw [mu_j (by omega)] at hp'
        have hq := o5 p' hp'
        by_cases d : p' = n
        · subst d
          have hq' : okP (fu (pq ν 1 p') 3 v) := ⟨hq.1, hq.2.1, hq.2.2.1, by show 0 ≤ v ∧ v ≤ 60; omega, hq.2.2.2.2.1, hq.2.2.2.2.2⟩
          refine okP_congr hq' (fun k hk => ?_)
          unfold pq fu mu
          by_cases u : k = 3
          · subst u
            rw [if_pos ⟨rfl, rfl⟩, if_pos rfl]
          · rw [if_neg (by omega), if_neg u]
        · exact okP_congr hq (fun k hk => by unfold pq; rw [mu_j (by omega)])
      · rw [mu_j (by omega)]
        exact hd
    · refine XS_no ?_ ?_
      · unfold M1_setDue
        rw [hk, Option.bind_some, if_pos (by decide), if_neg (by decide), if_pos (show inR v by omega), if_neg c]
      · rw [h5, Option.bind_some, if_pos (by decide), if_neg (by decide), if_pos (show inR v by omega), if_neg c]
  · rw [if_neg (by omega)] at hk h5
    refine XS_no ?_ ?_
    · unfold M1_setDue
      rw [hk, Option.bind_some, if_pos (by decide), if_pos rfl]
    · rw [h5, Option.bind_some, if_pos (by decide), if_pos rfl]
