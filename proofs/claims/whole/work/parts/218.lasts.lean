/-! lasts, first -/
def lastZ (q : Nat → Int) : Nat → Nat → Int → Int
  | 0, _, x => x
  | k + 1, i, x => if shoP (dayI i q) = 0 then lastZ q k (i + 1) (x + thrP (dayI i q)) else x
theorem dysC_6 {q q' : Nat → Int} (h : ∀ k, k < 6 → q k = q' k) (n : Nat) : dysC (n + 1) q 6 = dysC n q 6 + thrP (dayI n q') := by
  show dysC n q 6 + thrP (dysC n q) = _
  rw [thrP_congr (q := dysC n q) (q' := dayI n q') (dysC_p h n)]
theorem sho_thr {q : Nat → Int} (h : ¬ shoP q = 0) : thrP q = 0 := by
  unfold shoP at h
  unfold thrP
  by_cases c : q 3 = 1 ∧ ¬ needsZ (q 0) (q 1) ≤ q 2
  · rw [if_neg (fun z => c.2 z.2)]
  · rw [if_neg c] at h
    exact absurd rfl h
theorem lasts4 (N : Nat) {μ : mm} {q q' : Nat → Int} (hq : okP q) (h : ∀ k, k < 6 → q k = q' k) (h7 : q 7 = 0) : ∀ (k i : Nat), i ≤ 99 → 100 < i + k → dysC i q 7 = 0 → ∃ T : Nat → Int, L4_lasts_33 N k ((i : Int) + 1) (putC μ 43 (dysC i q)) = some (lastZ q' (99 - i) i (dysC i q 6), putC μ 43 T) := by
  intro k
  induction k with
  | zero => intro i h1 h2; omega
  | succ k ih =>
    intro i h1 h2 hs
    have e7 : putC μ 43 (dysC i q) 43 7 = 0 := (congrFun putC_s 7).trans hs
    have e6 : putC μ 43 (dysC i q) 43 6 = dysC i q 6 := congrFun putC_s 6
    rw [L4_lasts_33, if_pos (show inR ((i : Int) + 1) from by omega)]
    by_cases c : 99 < (i : Int) + 1
    · rw [if_pos c, show 99 - i = 0 by omega, e6]
      exact ⟨_, rfl⟩
    · rw [if_neg c, if_pos (show inR (putC μ 43 (dysC i q) 43 7) by rw [e7]; decide), if_pos e7, M2_oneDay_eq N 43 (by rw [putC_s]; exact dysC_ok hq i), Option.bind_some, putC_s, putC_putC]
      dsimp only
      have n7 : dysC (i + 1) q 7 = shoP (dayI i q') := by
        show dysC i q 7 + shoP (dysC i q) = _
        rw [shoP_congr (q := dysC i q) (q' := dayI i q') (dysC_p h i), hs]
        omega
      have n6 := dysC_6 h i
      rw [show 99 - i = (99 - (i + 1)) + 1 by omega, lastZ]
      by_cases d : shoP (dayI i q') = 0
      · rw [if_pos d, ← n6]
        obtain ⟨T, e⟩ := ih (i + 1) (by omega) (by omega) (by rw [n7]; exact d)
        exact ⟨T, e⟩
      · rw [if_neg d]
        obtain ⟨k', rfl⟩ : ∃ k', k = k' + 1 := ⟨k - 1, by omega⟩
        have hsp := shoP_in (dayI i q')
        have z7 : putC μ 43 (dayC (dysC i q)) 43 7 = shoP (dayI i q') := (congrFun putC_s 7).trans n7
        have z6 : putC μ 43 (dayC (dysC i q)) 43 6 = dysC i q 6 := (congrFun putC_s 6).trans (n6.trans (by rw [sho_thr d]; omega))
        refine ⟨dayC (dysC i q), ?_⟩
        rw [L4_lasts_33, if_pos (show inR ((i : Int) + 1 + 1) from by omega), if_pos (show inR (putC μ 43 (dayC (dysC i q)) 43 7) by rw [z7]; omega), if_neg (show ¬ putC μ 43 (dayC (dysC i q)) 43 7 = 0 by rw [z7]; exact d), z6]
        split <;> rfl
theorem lasts5 (N p : Nat) (hN : 100 ≤ N) (hp : p < 8) (q : Nat → Int) (hq : okP q) : ∀ (k i : Nat) (x : Int) (ν : mm), i ≤ 99 → 99 < i + k → okR ν 2 → (p : Int) < ν 2 0 → ν 2 1 ≤ 2000 + (i : Int) → at6 ν 2 p (dayI i q) → ∃ ν', L5_lasts_29 N k (p : Int) x ((i : Int) + 1) ν = some (lastZ q (99 - i) i x, ν') ∧ ∀ a, a ≠ 2 → a ≠ 4 → ν' a = ν a := by
  intro k
  induction k with
  | zero => intro i x ν h1 h2; omega
  | succ k ih =>
    intro i x ν h1 h2 ok hm hd h6
    rw [L5_lasts_29, if_pos (show inR ((i : Int) + 1) from by omega)]
    by_cases c : 99 < (i : Int) + 1
    · rw [if_pos c, show 99 - i = 0 by omega]
      exact ⟨ν, rfl, fun a _ _ => rfl⟩
    · have e2 : cp 2 4 ν 2 = ν 2 := cp_row (by decide)
      have ok2 : okR (cp 2 4 ν) 2 := okR_congr ok e2
      have h4 : at6 (dayR 2 (cp 2 4 ν)) 4 p (dayI i q) := by
        intro k hk
        rw [dayR_c (by decide)]
        exact cp_at hp h6 k hk
      have fr : ∀ a, a ≠ 2 → a ≠ 4 → dayR 2 (cp 2 4 ν) a = ν a := by
        intro a h2 h4
        rw [show dayR 2 (cp 2 4 ν) a = cp 2 4 ν a from funext fun b => dayR_c h2, cp_row h4]
      have hsp := shoP_in (dayI i q)
      have htp := thrP_in (dayI i q)
      rw [if_neg c, M5_copies_eq N 2 4 (by omega) (by decide), Option.bind_some, M5_day_eq N 2 (by omega) ok2, Option.bind_some, M5_isShortOn_eq N p hp h4 (dayI_ok hq i), Option.bind_some, if_pos (show inR (shoP (dayI i q)) from by omega), show 99 - i = (99 - (i + 1)) + 1 by omega, lastZ]
      by_cases d : shoP (dayI i q) = 0
      · have nx : ∀ y : Int, ∃ ν', L5_lasts_29 N k (p : Int) y ((i : Int) + 1 + 1) (dayR 2 (cp 2 4 ν)) = some (lastZ q (99 - (i + 1)) (i + 1) y, ν') ∧ ∀ a, a ≠ 2 → a ≠ 4 → ν' a = ν a := by
          intro y
          obtain ⟨ν', e, f⟩ := ih (i + 1) y (dayR 2 (cp 2 4 ν)) (by omega) (by omega) (dayR_ok ok2 (by rw [e2]; omega)) (by rw [show dayR 2 (cp 2 4 ν) 2 0 = cp 2 4 ν 2 0 from dayN_many, e2]; exact hm) (by rw [show dayR 2 (cp 2 4 ν) 2 1 = cp 2 4 ν 2 1 + 1 from dayN_day, e2]; omega) (dayR_at (by rw [e2]; exact hm) (by intro k hk; rw [e2]; exact h6 k hk))
          exact ⟨ν', e, fun a h2 h4 => (f a h2 h4).trans (fr a h2 h4)⟩
        rw [if_pos d, if_pos d, M5_isThroughOn_eq N p hp h4 (dayI_ok hq i), Option.bind_some, if_pos (show inR (thrP (dayI i q)) from by omega)]
        simp only [J5_lasts_77, bnd]
        by_cases t : thrP (dayI i q) = 0
        · rw [if_pos t, t]
          exact nx (x + 0)
        · rw [if_neg t, show thrP (dayI i q) = 1 by omega]
          exact nx (x + 1)
      · rw [if_neg d, if_neg d]
        exact ⟨_, rfl, fr⟩
theorem tkP_putC (μ : mm) (c : Nat) : tkP 43 c μ = putC μ 43 (trialQ μ c (μ c 2)) := by
  rw [← trial_mu]
  funext x y
  unfold mu
  by_cases h : x = 43 ∧ y = 2
  · obtain ⟨rfl, rfl⟩ := h
    rw [if_pos ⟨rfl, rfl⟩]
    unfold tkP
    rw [if_pos (by decide), if_pos (by decide)]
  · rw [if_neg h]
theorem op_lasts (N : Nat) (hN : 200 ≤ N) {μ : mm} (R : Rel μ) {p : Int} (hp : inR p) : Op (M4_lasts N p) (M5_lasts N p) μ := by
  obtain ⟨⟨a1, a2, a3⟩, -⟩ := id R
  have hm := a2.1
  have hu := unkZ_in μ p
  by_cases k : unkZ μ p = 0
  · have kk := unkZ_0 k
    obtain ⟨i, rfl⟩ := Int.eq_ofNat_of_zero_le kk.1
    have hi : i < 8 := by omega
    have h6 := a1.2.2.2.2 i kk.2
    have hq := offP a1 a2 kk.2
    have hT : okP (trialQ μ (10 + 2 + i) (μ (10 + 2 + i) 2)) := trialQ_ok hq hq.2.2.1
    obtain ⟨T, e1⟩ := lasts4 N (μ := μ) (q := trialQ μ (10 + 2 + i) (μ (10 + 2 + i) 2)) (q' := μ (10 + 2 + i)) hT trialQ_p rfl N 0 (by omega) (by omega) rfl
    have r1 : putC μ 43 T 1 = μ 1 := putC_row (by decide)
    have ok1 : okR (putC μ 43 T) 1 := okR_congr a2 r1
    have okc : okR (cp 1 2 (putC μ 43 T)) 2 := cp_ok ok1
    have c0 : cp 1 2 (putC μ 43 T) 2 0 = μ 1 0 := by rw [cp_to (by decide), r1]
    have c1 : cp 1 2 (putC μ 43 T) 2 1 = μ 1 1 := by rw [cp_to (by decide), r1]
    obtain ⟨ν', e2, f2⟩ := lasts5 N i (by omega) hi (μ (10 + 2 + i)) hq N 0 0 (cp 1 2 (putC μ 43 T)) (by omega) (by omega) okc (by rw [c0]; exact kk.2) (by rw [c1]; omega) (cp_at hi (by intro k hk; rw [r1]; exact h6 k hk))
    rw [show ((0 : Nat) : Int) + 1 = 1 from rfl] at e1 e2
    refine ⟨lastZ (μ (10 + 2 + i)) (99 - 0) 0 0, putC μ 43 T, ν', ?_, ?_, Rel_m R (fun a h43 h2 h4 => by rw [f2 a h2 h4, cp_row h2, putC_row h43])⟩
    · simp only [M4_lasts]
      rw [M4_unknown_eq N hp a1 a2, Option.bind_some, k, if_pos (by decide), if_pos rfl, M1_at_eq N 10 i hi, Option.bind_some, if_pos (kdo (Or.inl rfl) hi), M2_takeFrom_eq N (by omega), Option.bind_some, tkP_putC]
      exact e1
    · simp only [M5_lasts]
      rw [M5_isOne_eq N hp ok1, Option.bind_some, r1, if_pos kk, if_pos (by decide), if_neg (by decide), M5_copies_eq N 1 2 (by omega) (by decide), Option.bind_some]
      exact e2
  · obtain ⟨k1, k2⟩ := unkZ_no k
    refine Op_ref N R (c := -1) (by decide) ?_ (fun ν hν => ?_)
    · simp only [M4_lasts]
      rw [M4_unknown_eq N hp a1 a2, Option.bind_some, k1, if_pos (by decide), if_neg (by decide), rf4 N (by decide)]
    · have r1 : ν 1 = μ 1 := by rw [hν]; exact r4_c (by decide)
      simp only [M5_lasts]
      rw [M5_isOne_eq N hp (okR_congr a2 r1), Option.bind_some, r1, if_neg k2, if_pos (by decide), if_pos rfl, rf5 N (by decide)]
