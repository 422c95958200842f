def newP (a b c : Int) : Nat → Int := fun k => if k = 0 then a else if k = 1 then b else if k = 3 then c else 0
theorem adds_loop (N n : Nat) (hn : n < 8) (a b c : Int) {ν : mm} : ∀ (k i : Nat) (ν' : mm), i ≤ 6 → 6 < i + k → (∀ j, j < i → ν' 1 (4 + 6 * n + j) = 0) → (∀ x y, (x ≠ 1 ∨ y < 4 + 6 * n ∨ 10 + 6 * n ≤ y) → ν' x y = ν x y) →
    ∃ ν2, L5_adds_30 N k a b c (n : Int) (i : Int) ν' = some (1, ν2) ∧ at6 ν2 1 n (newP a b c) ∧ ν2 1 0 = ν 1 0 + 1 ∧ (∀ x y, (x ≠ 1 ∨ (y ≠ 0 ∧ (y < 4 + 6 * n ∨ 10 + 6 * n ≤ y))) → ν2 x y = ν x y) := by
  intro k
  induction k with
  | zero => intro i ν' h1 h2; omega
  | succ k ih =>
    intro i ν' h1 h2 hz hf
    rw [L5_adds_30, if_pos (show inR (i : Int) by omega)]
    by_cases d : 6 ≤ (i : Int)
    · rw [if_pos d, if_pos (ixg hn (by decide))]
      simp only [bnd]
      rw [if_pos (ixg hn (by decide)), if_pos (ixg hn (by decide)), ix0, ix1, ix3]
      refine ⟨_, rfl, fun j hj => ?_, ?_, fun x y hxy => ?_⟩
      · rw [mu_j (by omega)]
        have hj' : j = 0 ∨ j = 1 ∨ j = 2 ∨ j = 3 ∨ j = 4 ∨ j = 5 := by omega
        rcases hj' with rfl | rfl | rfl | rfl | rfl | rfl
        · rw [mu_j (by omega), mu_j (by omega), mu_s]
          rfl
        · rw [mu_j (by omega), mu_s]
          rfl
        · rw [mu_j (by omega), mu_j (by omega), mu_j (by omega), hz 2 (by omega)]
          rfl
        · rw [mu_s]
          rfl
        · rw [mu_j (by omega), mu_j (by omega), mu_j (by omega), hz 4 (by omega)]
          rfl
        · rw [mu_j (by omega), mu_j (by omega), mu_j (by omega), hz 5 (by omega)]
          rfl
      · rw [mu_s, mu_j (by omega), mu_j (by omega), mu_j (by omega), hf 1 0 (by omega)]
      · rw [← hf x y (by omega)]
        by_cases hx : x = 1
        · rw [mu_j (by omega), mu_j (by omega), mu_j (by omega), mu_j (by omega)]
        · rw [mu_c hx, mu_c hx, mu_c hx, mu_c hx]
    · rw [if_neg d, if_pos (show 0 ≤ ((4 + (6 * (n : Int))) + (i : Int)) ∧ ((4 + (6 * (n : Int))) + (i : Int)) < 52 by omega), show ((4 + (6 * (n : Int))) + (i : Int)).toNat = 4 + 6 * n + i by omega]
      simp only [bnd]
      refine ih (i + 1) _ (by omega) (by omega) (fun j hj => ?_) (fun x y hxy => ?_)
      · by_cases u : j = i
        · subst u
          rw [mu_s]
        · rw [mu_j (by omega)]
          exact hz j (by omega)
      · by_cases hx : x = 1
        · rw [mu_j (by omega)]
          exact hf x y hxy
        · rw [mu_c hx]
          exact hf x y hxy
theorem x_adds (N : Nat) (hN : 200 ≤ N) {ξ ν : mm} (X : relX 21 1 ξ ν) (ok : okR ν 1) (hd : ν 1 1 ≤ 999) (h31 : ∀ k, k < 6 → ξ 31 k = 0) {a b c : Int} (ha : 0 ≤ a ∧ a ≤ 5) (hb : 0 ≤ b ∧ b ≤ 9) (hc : 0 ≤ c ∧ c ≤ 99) : XS (M1_welcome N 21 a b c) (M5_adds N a b c) ξ ν := by
  have hm := ok.1
  obtain ⟨x1, x2, x3, x4, x5⟩ := id X
  by_cases f : ν 1 0 = 8
  · refine XS_no ?_ ?_
    · unfold M1_welcome
      rw [if_pos (show inR (ξ 21 2) by omega), if_pos (show 8 ≤ ξ 21 2 by omega)]
    · unfold M5_adds
      rw [if_pos (show inR c by omega), if_pos (show inR (ν 1 0) by omega), if_pos f]
      split <;> rfl
  · by_cases g : 60 < c
    · refine XS_no ?_ ?_
      · unfold M1_welcome
        rw [if_pos (show inR (ξ 21 2) by omega), if_neg (show ¬ 8 ≤ ξ 21 2 by omega), if_pos (show inR c by omega), if_neg (show ¬ c ≤ 60 by omega)]
      · unfold M5_adds
        rw [if_pos (show inR c by omega), if_pos g]
    · obtain ⟨n, hn⟩ := Int.eq_ofNat_of_zero_le hm.1
      have hn8 : n < 8 := by omega
      obtain ⟨ν2, e2, at2, c2, f2⟩ := adds_loop N n hn8 a b c (ν := ν) N 0 ν (by omega) (by omega) (fun j hj => by omega) (fun _ _ _ => rfl)
      have et : M2_takeFrom N (21 + 2 + n) (21 + 10) ξ = some (tkP (21 + 2 + n) 31 ξ) := M2_takeFrom_eq N (by omega) ξ
      have new : ∀ k, k < 6 → mu (mu (mu (mu (tkP (21 + 2 + n) 31 ξ) (21 + 2 + n) 0 a) (21 + 2 + n) 1 b) (21 + 2 + n) 3 c) 21 2 ((ν 1 0) + 1) (21 + 2 + n) k = newP a b c k := by
        intro k hk
        rw [mu_c (by omega)]
        have z : ∀ j, j < 6 → tkP (21 + 2 + n) 31 ξ (21 + 2 + n) j = 0 := by
          intro j hj
          unfold tkP
          rw [if_pos ⟨rfl, by omega⟩, if_pos hj, h31 j hj]
        have hj' : k = 0 ∨ k = 1 ∨ k = 2 ∨ k = 3 ∨ k = 4 ∨ k = 5 := by omega
        rcases hj' with rfl | rfl | rfl | rfl | rfl | rfl
        · rw [mu_j (by decide), mu_j (by decide), mu_s]
          rfl
        · rw [mu_j (by decide), mu_s]
          rfl
        · rw [mu_j (by decide), mu_j (by decide), mu_j (by decide), z 2 (by decide)]
          rfl
        · rw [mu_s]
          rfl
        · rw [mu_j (by decide), mu_j (by decide), mu_j (by decide), z 4 (by decide)]
          rfl
        · rw [mu_j (by decide), mu_j (by decide), mu_j (by decide), z 5 (by decide)]
          rfl
      have oth : ∀ x, x ≠ 21 → x ≠ 21 + 2 + n → mu (mu (mu (mu (tkP (21 + 2 + n) 31 ξ) (21 + 2 + n) 0 a) (21 + 2 + n) 1 b) (21 + 2 + n) 3 c) 21 2 ((ν 1 0) + 1) x = ξ x := by
        intro x h1 h2
        rw [mu_row h1, mu_row h2, mu_row h2, mu_row h2]
        funext y
        unfold tkP
        rw [if_neg (fun z => h2 z.1)]
      have sc : ∀ y, y ≠ 2 → mu (mu (mu (mu (tkP (21 + 2 + n) 31 ξ) (21 + 2 + n) 0 a) (21 + 2 + n) 1 b) (21 + 2 + n) 3 c) 21 2 ((ν 1 0) + 1) 21 y = ξ 21 y := by
        intro y hy
        rw [mu_j hy, mu_c (by omega), mu_c (by omega), mu_c (by omega)]
        unfold tkP
        rw [if_neg (by omega)]
      have okn : okP (newP a b c) := ⟨ha, hb, by show (0 : Int) ≤ 0 ∧ (0 : Int) ≤ 99; decide, by show 0 ≤ c ∧ c ≤ 60; omega, by show (0 : Int) ≤ 0 ∧ (0 : Int) ≤ 999; decide, by show (0 : Int) ≤ 0 ∧ (0 : Int) ≤ 999; decide⟩
      refine ⟨1, _, ν2, ?_, ?_, Or.inr rfl, fun _ => ⟨⟨?_, ?_, ?_, ?_, fun p' hp' k hk => ?_⟩, ⟨?_, ?_, ?_, ?_, fun p' hp' => ?_⟩, ?_⟩, fun x h1 h2 => oth x h1 (by omega), fun x h1 => funext fun y => f2 x y (Or.inl h1)⟩
      · unfold M1_welcome
        rw [if_pos (show inR (ξ 21 2) by omega), if_neg (show ¬ 8 ≤ ξ 21 2 by omega), if_pos (show inR c by omega), if_pos (show c ≤ 60 by omega), x1, hn, M1_at_eq N 21 n hn8, Option.bind_some, if_pos (kdO (Or.inr (Or.inl rfl)) hn8), et, Option.bind_some]
        simp only [bnd]
        rw [show mu (mu (mu (tkP (21 + 2 + n) 31 ξ) (21 + 2 + n) 0 a) (21 + 2 + n) 1 b) (21 + 2 + n) 3 c 21 2 = ν 1 0 from by
          rw [mu_c (by omega), mu_c (by omega), mu_c (by omega), ← x1]
          unfold tkP
          rw [if_neg (by omega)], hn]
      · unfold M5_adds
        rw [if_pos (show inR c by omega), if_neg g, if_pos (show inR (ν 1 0) by omega), if_neg f]
        simp only [bnd]
        rw [hn]
        exact e2
      · rw [mu_s, c2]
      · rw [sc 3 (by decide), f2 1 2 (by omega)]
        exact x2
      · rw [sc 4 (by decide), f2 1 3 (by omega)]
        exact x3
      · rw [sc 5 (by decide), f2 1 1 (by omega)]
        exact x4
      · rw [c2] at hp'
        by_cases u : p' = n
        · subst u
          rw [at2 k hk]
          exact (new k hk).symm
        · rw [f2 1 (4 + 6 * p' + k) (by omega), oth (21 + 2 + p') (by omega) (by omega)]
          exact x5 p' (by omega) k hk
      · rw [c2]; omega
      · rw [f2 1 1 (by omega)]; exact ok.2.1
      · rw [f2 1 2 (by omega)]; exact ok.2.2.1
      · rw [f2 1 3 (by omega)]; exact ok.2.2.2.1
      · rw [c2] at hp'
        by_cases u : p' = n
        · subst u
          exact okP_congr okn (fun k hk => at2 k hk)
        · exact okP_congr (ok.2.2.2.2 p' (by omega)) (fun k hk => f2 1 _ (by omega))
      · rw [f2 1 1 (by omega)]
        exact hd
