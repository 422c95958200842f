theorem x_issue (N : Nat) {ξ ν : mm} (X : relX 21 1 ξ ν) (ok : okR ν 1) (hd : ν 1 1 ≤ 999) {p v : Int} (hp : 0 ≤ p ∧ p ≤ 9) (hv : 0 ≤ v ∧ v ≤ 99) : XS (M1_issue N 21 p v) (fun μ => (M5_isOne N p μ).bind fun (q15 : Int) => if inR q15 then (if q15 = 0 then (some (0, μ)) else (if inR v ∧ inR (μ 1 2) then (if (μ 1 2) < v then (some (0, μ)) else (if 0 ≤ ((4 + (6 * p)) + 2) ∧ ((4 + (6 * p)) + 2) < 52 then (if inR ((μ 1 (((4 + (6 * p)) + 2)).toNat) + v) then (if ((μ 1 (((4 + (6 * p)) + 2)).toNat) + v) ≤ 99 then ((M5_issuesIn N 1 p v μ).bind fun (q20 : mm) => some (1, q20)) else (some (0, μ))) else none) else none)) else none)) else none) ξ ν := by
  have hm := ok.1
  have hs := ok.2.2.1
  obtain ⟨x1, x2, x3, x4, x5⟩ := id X
  obtain ⟨n, rfl⟩ := Int.eq_ofNat_of_zero_le hp.1
  have hk := M1_knows_eq N 21 (p := (n : Int)) (μ := ξ) (by omega) (by omega)
  have h5 := M5_isOne_eq N (p := (n : Int)) (μ := ν) (by omega) ok
  by_cases k : (n : Int) < ν 1 0
  · have hn : n < 8 := by omega
    have h6 := x5 n k
    have okO1 := okO_of X ok
    have hq := okO1.2.2 n (by omega)
    have hq2 := hq.2.2.1
    rw [if_pos (by omega)] at hk h5
    by_cases c : ν 1 2 < v
    · refine XS_no ?_ ?_
      · unfold M1_issue
        rw [hk, Option.bind_some, if_pos (by decide), if_neg (by decide), if_pos (show inR v ∧ inR (ξ 21 3) by omega), if_pos (show ξ 21 3 < v by omega)]
      · rw [h5, Option.bind_some, if_pos (by decide), if_neg (by decide), if_pos (show inR v ∧ inR (ν 1 2) by omega), if_pos c]
    · by_cases d : ξ (21 + 2 + n) 2 + v ≤ 99
      · refine ⟨1, isC ξ 21 n v, isR ν 1 n v, ?_, ?_, Or.inr rfl, fun _ => ⟨?_, ?_, ?_⟩, fun a h1 h2 => isC_row h1 (by omega), fun a h1 => isR_row h1⟩
        · rw [M1_issue_eq N (Or.inr (Or.inl rfl)) ⟨okO1, by omega⟩ n (by omega) hv d, if_neg (by omega)]
        · dsimp only
          rw [h5, Option.bind_some, if_pos (by decide), if_neg (by decide), if_pos (show inR v ∧ inR (ν 1 2) by omega), if_neg c, if_pos (ixg hn (by decide)), ix2, h6 2 (by decide), if_pos (show inR (ξ (21 + 2 + n) 2 + v) by omega), if_pos d, M5_issuesIn_eq N 1 n hn, Option.bind_some]
          rfl
        · have := relD_is (p := n) (l := v) (relD_0 X)
          exact ⟨this.1, by rw [this.2.1]; omega, this.2.2⟩
        · exact okR_isR ok k (by omega) (by rw [h6 2 (by decide)]; exact d)
        · rw [isR_sc (by decide) (by decide)]
          exact hd
      · refine XS_no ?_ ?_
        · unfold M1_issue
          rw [hk, Option.bind_some, if_pos (by decide), if_neg (by decide), if_pos (show inR v ∧ inR (ξ 21 3) by omega), if_neg (show ¬ ξ 21 3 < v by omega), M1_at_eq N 21 n hn, Option.bind_some, if_pos (kdO (Or.inr (Or.inl rfl)) hn), if_pos (show inR (ξ (21 + 2 + n) 2 + v) by omega), if_neg d]
        · rw [h5, Option.bind_some, if_pos (by decide), if_neg (by decide), if_pos (show inR v ∧ inR (ν 1 2) by omega), if_neg c, if_pos (ixg hn (by decide)), ix2, h6 2 (by decide), if_pos (show inR (ξ (21 + 2 + n) 2 + v) by omega), if_neg d]
  · rw [if_neg (by omega)] at hk h5
    refine XS_no ?_ ?_
    · unfold M1_issue
      rw [hk, Option.bind_some, if_pos (by decide), if_pos rfl]
    · rw [h5, Option.bind_some, if_pos (by decide), if_pos rfl]
theorem x_hand (N : Nat) {ξ ν : mm} (X : relX 21 1 ξ ν) (ok : okR ν 1) (hd : ν 1 1 ≤ 999) {p : Int} (hp : 0 ≤ p ∧ p ≤ 9) : XS (M1_handIn N 21 p) (fun μ => (M5_isOne N p μ).bind fun (q77 : Int) => if inR q77 then (if q77 = 0 then (some (0, μ)) else ((M5_handsIn N 1 p μ).bind fun (q79 : mm) => some (1, q79))) else none) ξ ν := by
  have hm := ok.1
  have hs := ok.2.2.1
  have hw := ok.2.2.2.1
  obtain ⟨x1, x2, x3, x4, x5⟩ := id X
  obtain ⟨n, rfl⟩ := Int.eq_ofNat_of_zero_le hp.1
  have hk := M1_knows_eq N 21 (p := (n : Int)) (μ := ξ) (by omega) (by omega)
  have h5 := M5_isOne_eq N (p := (n : Int)) (μ := ν) (by omega) ok
  by_cases k : (n : Int) < ν 1 0
  · have hn : n < 8 := by omega
    have h6 := x5 n k
    have okO1 := okO_of X ok
    have hq := okO1.2.2 n (by omega)
    have hq2 := hq.2.2.1
    have e2 := h6 2 (by decide)
    rw [if_pos (by omega)] at hk h5
    refine ⟨1, mu (mu (mu ξ (21 + 2 + n) 2 0) 21 3 (min 999 (ξ 21 3 + ξ (21 + 2 + n) 2))) 21 4 (min 9999 (ξ 21 4 + (ξ 21 3 + ξ (21 + 2 + n) 2 - min 999 (ξ 21 3 + ξ (21 + 2 + n) 2)))), mu (mu (mu ν 1 (4 + 6 * n + 2) 0) 1 2 (min 999 (ν 1 2 + ν 1 (4 + 6 * n + 2)))) 1 3 (min 9999 (ν 1 3 + max 0 (ν 1 2 + ν 1 (4 + 6 * n + 2) - 999))), ?_, ?_, Or.inr rfl, fun _ => ⟨?_, ?_, ?_⟩, fun a h1 h2 => ?_, fun a h1 => ?_⟩
    · simp only [M1_handIn, bnd]
      rw [hk, Option.bind_some, if_pos (by decide), if_neg (by decide), M1_at_eq N 21 n hn, Option.bind_some, if_pos (kdO (Or.inr (Or.inl rfl)) hn), Option.bind_some, if_pos (kdO (Or.inr (Or.inl rfl)) hn), if_pos (show inR (ξ 21 3 + ξ (21 + 2 + n) 2) by omega), mu_s]
      rw [show (if 999 < ξ 21 3 + ξ (21 + 2 + n) 2 then 999 else ξ 21 3 + ξ (21 + 2 + n) 2) = min 999 (ξ 21 3 + ξ (21 + 2 + n) 2) by split <;> omega]
      rw [M1_wear_eq N 21 _ _ (by rw [mu_j (by decide), mu_c (by omega)]; omega) (by omega), Option.bind_some, mu_j (by decide), mu_c (show 21 ≠ 21 + 2 + n by omega)]
    · dsimp only
      rw [h5, Option.bind_some, if_pos (by decide), if_neg (by decide), M5_handsIn_eq N 1 n hn ν hs (by rw [e2]; exact hq2) hw, Option.bind_some]
    · refine ⟨?_, ?_, ?_, ?_, fun p' hp' k hk => ?_⟩
      · rw [mu_j (by decide), mu_j (by decide), mu_c (by omega), mu_j (by decide), mu_j (by decide), mu_j (by omega)]
        exact x1
      · rw [mu_j (by decide), mu_s, mu_j (by decide), mu_s, e2, x2]
      · rw [mu_s, mu_s, e2, x2, x3]
        omega
      · rw [mu_j (by decide), mu_j (by decide), mu_c (by omega), mu_j (by decide), mu_j (by decide), mu_j (by omega)]
        exact x4
      · rw [mu_j (by decide), mu_j (by decide), mu_j (by omega)] at hp'
        have a := x5 p' hp' k hk
        refine Eq.trans (b := mu ν 1 (4 + 6 * n + 2) 0 1 (4 + 6 * p' + k)) (by rw [mu_j (by omega), mu_j (by omega)]) (Eq.trans (b := mu ξ (21 + 2 + n) 2 0 (21 + 2 + p') k) ?_ (Eq.symm (by rw [mu_c (by omega), mu_c (by omega)])))
        unfold mu
        by_cases d : p' = n ∧ k = 2
        · obtain ⟨rfl, rfl⟩ := d
          rw [if_pos ⟨rfl, rfl⟩, if_pos ⟨rfl, rfl⟩]
        · rw [if_neg (by omega), if_neg (by omega)]
          exact a
    · obtain ⟨o1, o2, o3, o4, o5⟩ := ok
      refine ⟨by rw [mu_j (by decide), mu_j (by decide), mu_j (by omega)]; exact o1, by rw [mu_j (by decide), mu_j (by decide), mu_j (by omega)]; exact o2, by rw [mu_j (by decide), mu_s]; omega, by rw [mu_s]; omega, fun p' hp' => ?_⟩
      rw [mu_j (by decide), mu_j (by decide), mu_j (by omega)] at hp'
      have hq' := o5 p' hp'
      by_cases d : p' = n
      · subst d
        refine okP_congr (okP_has hq' (show (0 : Int) ≤ 0 ∧ (0 : Int) ≤ 99 by decide)) (fun k hk => ?_)
        unfold pq fu
        rw [mu_j (by omega), mu_j (by omega)]
        by_cases u : k = 2
        · subst u
          rw [mu_s, if_pos rfl]
        · rw [mu_j (by omega), if_neg u]
      · refine okP_congr hq' (fun k hk => ?_)
        unfold pq
        rw [mu_j (by omega), mu_j (by omega), mu_j (by omega)]
    · rw [mu_j (by decide), mu_j (by decide), mu_j (by omega)]
      exact hd
    · rw [mu_row h1, mu_row h1, mu_row (by omega)]
    · rw [mu_row h1, mu_row h1, mu_row h1]
  · rw [if_neg (by omega)] at hk h5
    refine XS_no ?_ ?_
    · unfold M1_handIn
      rw [hk, Option.bind_some, if_pos (by decide), if_pos rfl]
    · rw [h5, Option.bind_some, if_pos (by decide), if_pos rfl]
