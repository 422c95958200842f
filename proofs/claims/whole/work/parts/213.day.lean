/-! a day on the class's side -/
def thrP (q : Nat → Int) : Int := if q 3 = 1 ∧ needsZ (q 0) (q 1) ≤ q 2 then 1 else 0
def shoP (q : Nat → Int) : Int := if q 3 = 1 ∧ ¬ needsZ (q 0) (q 1) ≤ q 2 then 1 else 0
def dayC (q : Nat → Int) : Nat → Int := fun k => if k = 6 then q 6 + thrP q else if k = 7 then q 7 + shoP q else dayP q k
def putC (μ : mm) (c : Nat) (q : Nat → Int) : mm := fun x y => if x = c then q y else μ x y
theorem dayC_p {q : Nat → Int} {k : Nat} (h : k < 6) : dayC q k = dayP q k := by unfold dayC; rw [if_neg (by omega), if_neg (by omega)]
theorem M0_nextIn_eq (N : Nat) {k : Int} (h : 0 ≤ k ∧ k ≤ 5) (μ : mm) : M0_nextIn N k μ = some (nextZ k) := by
  unfold M0_nextIn nextZ
  rw [if_pos (show inR k from by omega)]
  repeat' split
  all_goals first | rfl | omega
theorem M0_wears_eq (N : Nat) {k f : Int} (h : 0 ≤ k ∧ k ≤ 5) (hf : 0 ≤ f ∧ f ≤ 9) (μ : mm) : M0_wears N k (needsZ k f) μ = some (wearsZ k f) := by
  have hn := needsZ_in (k := k) hf
  unfold M0_wears wearsZ
  rw [if_pos (show inR k from by omega), if_pos (show 0 ≤ needsZ k f ∧ inR (needsZ k f) from by omega), if_pos (show 0 ≤ needsZ k f ∧ inR (needsZ k f) from by omega)]
  repeat' split
  all_goals first | rfl | omega
theorem putC_row {μ : mm} {c x : Nat} {q : Nat → Int} (h : x ≠ c) : putC μ c q x = μ x := by
  funext y
  unfold putC
  rw [if_neg h]
theorem putC_s {μ : mm} {c : Nat} {q : Nat → Int} : putC μ c q c = q := by
  funext y
  unfold putC
  rw [if_pos rfl]
theorem M2_oneDay_eq (N c : Nat) {μ : mm} (h : okP (μ c)) : M2_oneDay N c μ = some (dgone (μ c), putC μ c (dayC (μ c))) := by
  have hn := needsZ_in (k := μ c 0) h.2.1
  have hw := wearsZ_in (k := μ c 0) h.2.1
  have hg := goneP_in h
  obtain ⟨h0, h1, h2, h3, h4, h5⟩ := id h
  simp only [M2_oneDay, J2_oneDay_131, bnd]
  rw [if_pos (show inR (μ c 3) from by omega)]
  by_cases a : μ c 3 = 0
  · rw [if_pos a]
    have e : putC μ c (dayC (μ c)) = μ := by
      funext x y
      unfold putC
      by_cases hx : x = c
      · subst hx
        rw [if_pos rfl]
        unfold dayC thrP shoP dayP
        rw [if_neg (show ¬ (μ x 3 = 1 ∧ needsZ (μ x 0) (μ x 1) ≤ μ x 2) by omega), if_neg (show ¬ (μ x 3 = 1 ∧ ¬ needsZ (μ x 0) (μ x 1) ≤ μ x 2) by omega), if_pos a]
        repeat' split
        all_goals simp_all
      · rw [if_neg hx]
    rw [e, show dgone (μ c) = 0 from if_neg (by omega)]
  · rw [if_neg a, mu_s, if_pos (show inR (μ c 3 - 1) from by omega)]
    by_cases b : μ c 3 = 1
    · rw [if_pos (show μ c 3 - 1 ≤ 0 by omega), mu_j (show (0 : Nat) ≠ 3 by decide), mu_j (show (1 : Nat) ≠ 3 by decide), M0_needs_eq N h0 h1, Option.bind_some, mu_j (show (2 : Nat) ≠ 3 by decide), if_pos (show inR (μ c 2) ∧ inR (needsZ (μ c 0) (μ c 1)) from by omega)]
      by_cases d : μ c 2 < needsZ (μ c 0) (μ c 1)
      · rw [if_pos d]
        simp only [mu_s, mu_j, ne_eq, not_false_eq_true, Nat.reduceEqDiff]
        rw [if_pos (show inR (μ c 5 + 1) from by omega), M0_nextIn_eq N h0, Option.bind_some, show dgone (μ c) = 0 from by unfold dgone goneP; rw [if_pos b, if_neg (by omega)]]
        congr 2
        funext x y
        unfold putC
        by_cases hx : x = c
        · subst hx
          rw [if_pos rfl]
          unfold dayC thrP shoP dayP
          rw [if_neg (show ¬ (μ x 3 = 1 ∧ needsZ (μ x 0) (μ x 1) ≤ μ x 2) by omega), if_pos (show (μ x 3 = 1 ∧ ¬ needsZ (μ x 0) (μ x 1) ≤ μ x 2) by omega), if_neg a, if_pos b]
          unfold meetP goneP
          rw [if_neg (show ¬ needsZ (μ x 0) (μ x 1) ≤ μ x 2 by omega), if_neg (show ¬ needsZ (μ x 0) (μ x 1) ≤ μ x 2 by omega), if_neg (show ¬ needsZ (μ x 0) (μ x 1) ≤ μ x 2 by omega)]
          have hy : y = 0 ∨ y = 1 ∨ y = 2 ∨ y = 3 ∨ y = 4 ∨ y = 5 ∨ y = 6 ∨ y = 7 ∨ 8 ≤ y := by omega
          rcases hy with rfl | rfl | rfl | rfl | rfl | rfl | rfl | rfl | hy
          · simp [mu]
          · simp [mu]
          · simp [mu]
          · simp [mu]
          · simp [mu]
          · simp only [mu_s, mu_j, ne_eq, not_false_eq_true, Nat.reduceEqDiff]
            show (if 999 < μ x 5 + 1 then 999 else μ x 5 + 1) = min 999 (μ x 5 + 1)
            split <;> omega
          · simp [mu]
          · simp [mu]
          · rw [if_neg (show ¬ y = 6 by omega), if_neg (show ¬ y = 7 by omega), if_neg (show ¬ y = 2 by omega), if_neg (show ¬ y = 3 by omega), if_neg (show ¬ y = 4 by omega), if_neg (show ¬ y = 5 by omega), mu_j (by omega), mu_j (by omega), mu_j (by omega), mu_j (by omega)]
        · rw [if_neg hx, mu_c hx, mu_c hx, mu_c hx, mu_c hx]
      · rw [if_neg d]
        simp only [mu_s, mu_j, ne_eq, not_false_eq_true, Nat.reduceEqDiff]
        rw [if_pos (show inR (μ c 4 + 1) from by omega), M0_wears_eq N h0 h1, Option.bind_some, if_pos (show inR (wearsZ (μ c 0) (μ c 1)) ∧ inR (μ c 2) from by omega)]
        have eg : (if μ c 2 < wearsZ (μ c 0) (μ c 1) then μ c 2 else wearsZ (μ c 0) (μ c 1)) = goneP (μ c) := by
          unfold goneP
          rw [if_pos (show needsZ (μ c 0) (μ c 1) ≤ μ c 2 by omega)]
          by_cases g : μ c 2 < wearsZ (μ c 0) (μ c 1)
          · rw [if_pos g]; omega
          · rw [if_neg g]; omega
        rw [eg, M0_nextIn_eq N h0, Option.bind_some, show dgone (μ c) = goneP (μ c) from if_pos b]
        congr 2
        funext x y
        unfold putC
        by_cases hx : x = c
        · subst hx
          rw [if_pos rfl]
          unfold dayC thrP shoP dayP
          rw [if_pos (show (μ x 3 = 1 ∧ needsZ (μ x 0) (μ x 1) ≤ μ x 2) by omega), if_neg (show ¬ (μ x 3 = 1 ∧ ¬ needsZ (μ x 0) (μ x 1) ≤ μ x 2) by omega), if_neg a, if_pos b]
          unfold meetP
          rw [if_pos (show needsZ (μ x 0) (μ x 1) ≤ μ x 2 by omega), if_pos (show needsZ (μ x 0) (μ x 1) ≤ μ x 2 by omega)]
          have hy : y = 0 ∨ y = 1 ∨ y = 2 ∨ y = 3 ∨ y = 4 ∨ y = 5 ∨ y = 6 ∨ y = 7 ∨ 8 ≤ y := by omega
          rcases hy with rfl | rfl | rfl | rfl | rfl | rfl | rfl | rfl | hy
          · simp [mu]
          · simp [mu]
          · simp [mu]
          · simp [mu]
          · simp only [mu_s, mu_j, ne_eq, not_false_eq_true, Nat.reduceEqDiff]
            show (if 999 < μ x 4 + 1 then 999 else μ x 4 + 1) = min 999 (μ x 4 + 1)
            split <;> omega
          · simp [mu]
          · simp [mu]
          · simp [mu]
          · rw [if_neg (show ¬ y = 6 by omega), if_neg (show ¬ y = 7 by omega), if_neg (show ¬ y = 2 by omega), if_neg (show ¬ y = 3 by omega), if_neg (show ¬ y = 4 by omega), if_neg (show ¬ y = 5 by omega), mu_j (by omega), mu_j (by omega), mu_j (by omega), mu_j (by omega), mu_j (by omega)]
        · rw [if_neg hx, mu_c hx, mu_c hx, mu_c hx, mu_c hx, mu_c hx]
    · rw [if_neg (show ¬ μ c 3 - 1 ≤ 0 by omega), show dgone (μ c) = 0 from if_neg b]
      congr 2
      funext x y
      unfold putC
      by_cases hx : x = c
      · subst hx
        rw [if_pos rfl]
        unfold dayC thrP shoP dayP fu mu
        rw [if_neg (show ¬ (μ x 3 = 1 ∧ needsZ (μ x 0) (μ x 1) ≤ μ x 2) by omega), if_neg (show ¬ (μ x 3 = 1 ∧ ¬ needsZ (μ x 0) (μ x 1) ≤ μ x 2) by omega), if_neg a, if_neg b]
        repeat' split
        all_goals first | rfl | omega | simp_all
      · rw [if_neg hx, mu_c hx]
