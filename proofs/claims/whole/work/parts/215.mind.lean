/-! in mind: allThen, personThen -/
theorem M5_takes_eq (N : Nat) {μ : mm} (hN : 100 ≤ N) (ok : okR μ 1) (h1 : μ 1 1 ≤ 999) (j : Nat) (hj : j ≤ 99) : M5_takes N (j : Int) μ = some (days 2 j (cp 1 2 μ)) := by
  unfold M5_takes
  have ok2 : okR (cp 1 2 μ) 2 := cp_ok ok
  have e : cp 1 2 μ 2 1 = μ 1 1 := cp_to (by decide)
  rw [M5_copies_eq N 1 2 (by omega) (by decide), Option.bind_some, M5_daysOn_eq N 2 (by omega) ok2 j (by omega) (by omega), Option.bind_some]
def mindT (μ : mm) : mm := tkN 21 10 (μ 10 2).toNat μ
theorem mindT_X {μ : mm} (R : relO 10 1 μ) (ok : okR μ 1) : relX 21 1 (mindT μ) μ := by
  obtain ⟨r1, r2, r3, r4, r5⟩ := R
  have hm := ok.1
  unfold mindT
  refine ⟨by rw [tkN_sc (by decide)]; exact r1, by rw [tkN_sc (by decide)]; exact r2, by rw [tkN_sc (by decide)]; exact r3, by rw [tkN_sc (by decide)]; exact r4, fun p hp k hk => ?_⟩
  rw [tkN_at (by omega) hk]
  exact r5 p hp k hk
theorem mindT_c {μ : mm} (R : relO 10 1 μ) (ok : okR μ 1) {x : Nat} (h : x ≠ 21) (hx : x < 23 ∨ 31 ≤ x) : mindT μ x = μ x := by
  have hm := ok.1
  have e := R.1
  exact tkN_c h (by omega)
theorem mind_eq (N : Nat) {μ : mm} (hN : 9 ≤ N) (R : relO 10 1 μ) (ok : okR μ 1) : M1_takeFrom N 21 10 μ = some (mindT μ) :=
  M1_takeFrom_eq N (Or.inr (Or.inl rfl)) (Or.inl rfl) (by decide) hN (by rw [R.1]; exact ok.1)
/-- mind and m behind the same days -/
theorem mind_days {μ μ' : mm} (R : relO 10 1 μ) (ok : okR μ 1) (h1 : μ 1 1 ≤ 999) (hr : μ' 1 = μ 1) (j : Nat) (hj : j ≤ 99) : relX 21 2 (dysO 21 j (mindT μ)) (days 2 j (cp 1 2 μ')) ∧ okR (days 2 j (cp 1 2 μ')) 2 ∧ okO (mindT μ) 21 := by
  have ok' : okR μ' 1 := okR_congr ok hr
  have ok2 : okR (cp 1 2 μ') 2 := cp_ok ok'
  have e : cp 1 2 μ' 2 1 = μ 1 1 := (cp_to (by decide)).trans (by rw [hr])
  have X : relX 21 2 (mindT μ) (cp 1 2 μ') := relX_congr (mindT_X R ok) ok.1.2 rfl (fun p hp => rfl) (fun i hi => (cp_to hi).trans (by rw [hr]))
  exact ⟨relX_days X ok2 j (by omega), days_ok ok2 j (by omega), okO_of X ok2⟩
theorem scr_ne {a : Nat} (h : scr a = false) : a ≠ 2 ∧ a ≠ 4 ∧ a ≠ 8 ∧ a ≠ 21 ∧ a ≠ 22 ∧ (a < 23 ∨ 31 ≤ a) ∧ a ≠ 43 ∧ a ≠ 48 ∧ a ≠ 49 := by
  unfold scr at h
  simp only [Bool.or_eq_false_iff, Bool.and_eq_false_iff, beq_eq_false_iff_ne, ne_eq, decide_eq_false_iff_not] at h
  omega
theorem op_allThen (N : Nat) (hN : 200 ≤ N) {μ : mm} (R : Rel μ) {n w : Int} (hn : inR n) (hw : inR w) : Op (M4_allThen N n w) (M5_allThen N n w) μ := by
  obtain ⟨⟨a1, a2, a3⟩, -⟩ := id R
  have ho := outZ_in n 0 99
  have ht := othZ_in w 2
  by_cases o : outZ n 0 99 = 0
  · have oo := outZ_0 o
    by_cases t : othZ w 2 = 0
    · have tt := othZ_0 t
      obtain ⟨j, rfl⟩ := Int.eq_ofNat_of_zero_le oo.1
      have hc1 : dysO 21 j (mindT μ) 1 = μ 1 := by
        have ok21 := (mind_days a1 a2 a3 rfl j (by omega)).2.2
        rw [dysO_c ok21 (by decide) (by omega), mindT_c a1 a2 (by decide) (by omega)]
      obtain ⟨X, okm, ok21⟩ := mind_days a1 a2 a3 hc1 j (by omega)
      have ok1 : okR (dysO 21 j (mindT μ)) 1 := okR_congr a2 hc1
      have hx := dysO_ok ok21 j
      have Rf : Rel (days 2 j (cp 1 2 (dysO 21 j (mindT μ)))) := by
        refine Rel_scr R (fun a ha h0 => ?_) (fun i _ _ => ?_)
        · have := scr_ne ha
          rw [show days 2 j (cp 1 2 (dysO 21 j (mindT μ))) a = cp 1 2 (dysO 21 j (mindT μ)) a from funext fun b => days_c (by omega) j, cp_row (by omega), dysO_c ok21 (by omega) (by omega), mindT_c a1 a2 (by omega) (by omega)]
        · rw [days_c (by decide), cp_c (by decide), dysO_c ok21 (by decide) (by omega), mindT_c a1 a2 (by decide) (by omega)]
      have e4 := M5_allOf_eq N 2 4 (by decide) (by omega) (μ := days 2 j (cp 1 2 (dysO 21 j (mindT μ)))) okm.1
      have e5 := M5_allOf_eq N 2 5 (by decide) (by omega) (μ := days 2 j (cp 1 2 (dysO 21 j (mindT μ)))) okm.1
      rw [show ((4 : Nat) : Int) = 4 from rfl] at e4
      rw [show ((5 : Nat) : Int) = 5 from rfl] at e5
      have f4 : M4_allThen N (j : Int) w μ = if w = 0 then some (sumN (fun p => dysO 21 j (mindT μ) (21 + 2 + p) 4) (dysO 21 j (mindT μ) 21 2).toNat, dysO 21 j (mindT μ)) else if w = 1 then some (sumN (fun p => dysO 21 j (mindT μ) (21 + 2 + p) 5) (dysO 21 j (mindT μ) 21 2).toNat, dysO 21 j (mindT μ)) else some (dysO 21 j (mindT μ) 21 4, dysO 21 j (mindT μ)) := by
        simp only [M4_allThen]
        rw [M4_outside_eq N hn (by decide) (by decide), Option.bind_some, M4_other_eq N hw (by decide), Option.bind_some, M4_firstOf_eq N ho ht, Option.bind_some, fst0 o t, if_pos (by decide), if_pos rfl, mind_eq N (by omega) a1 a2, Option.bind_some, M1_daysGoBy_eq N (Or.inr (Or.inl rfl)) (by omega) ok21 j (by omega) (by omega), Option.bind_some, if_pos hw, if_pos hw, M1_allThrough_eq N (Or.inr (Or.inl rfl)) (by omega) hx.1, M1_allShort_eq N (Or.inr (Or.inl rfl)) (by omega) hx.1]
        rfl
      have f5 : M5_allThen N (j : Int) w (dysO 21 j (mindT μ)) = if w = 0 then some (sumN (fun p => days 2 j (cp 1 2 (dysO 21 j (mindT μ))) 2 (4 + 6 * p + 4)) (days 2 j (cp 1 2 (dysO 21 j (mindT μ))) 2 0).toNat, days 2 j (cp 1 2 (dysO 21 j (mindT μ)))) else if w = 1 then some (sumN (fun p => days 2 j (cp 1 2 (dysO 21 j (mindT μ))) 2 (4 + 6 * p + 5)) (days 2 j (cp 1 2 (dysO 21 j (mindT μ))) 2 0).toNat, days 2 j (cp 1 2 (dysO 21 j (mindT μ)))) else some (days 2 j (cp 1 2 (dysO 21 j (mindT μ))) 2 3, days 2 j (cp 1 2 (dysO 21 j (mindT μ)))) := by
        simp only [M5_allThen, J5_allThen_24]
        rw [M5_wrongBy_eq N hn (by decide) (by decide), Option.bind_some, o, if_pos (by decide), if_pos rfl, M5_isIn_eq N hw (by decide) (by decide), Option.bind_some, if_pos tt, if_pos (by decide), if_neg (by decide), if_pos (by decide), if_pos rfl, M5_takes_eq N (by omega) ok1 (by rw [hc1]; exact a3) j (by omega), Option.bind_some, if_pos hw, if_pos hw, e4, e5]
        rfl
      by_cases w0 : w = 0
      · exact ⟨_, _, _, by rw [f4, if_pos w0], by rw [f5, if_pos w0, ← relX_sum X 4 (by decide)], Rf⟩
      · by_cases w1 : w = 1
        · exact ⟨_, _, _, by rw [f4, if_neg w0, if_pos w1], by rw [f5, if_neg w0, if_pos w1, ← relX_sum X 5 (by decide)], Rf⟩
        · exact ⟨_, _, _, by rw [f4, if_neg w0, if_neg w1], by rw [f5, if_neg w0, if_neg w1, ← X.2.2.1], Rf⟩
    · obtain ⟨t1, t2⟩ := oth_no t
      refine Op_ref N R (c := -2) (by decide) ?_ (fun ν _ => ?_)
      · simp only [M4_allThen]
        rw [M4_outside_eq N hn (by decide) (by decide), Option.bind_some, M4_other_eq N hw (by decide), Option.bind_some, M4_firstOf_eq N ho ht, Option.bind_some, fst2 o t, t1, if_pos (by decide), if_neg (by decide), rf4 N (by decide)]
      · simp only [M5_allThen, J5_allThen_24]
        rw [M5_wrongBy_eq N hn (by decide) (by decide), Option.bind_some, o, if_pos (by decide), if_pos rfl, M5_isIn_eq N hw (by decide) (by decide), Option.bind_some, if_neg t2, if_pos (by decide), if_pos rfl, if_pos (by decide), if_neg (by decide), rf5 N (by decide)]
  · refine Op_ref N R (c := outZ n 0 99) (by omega) ?_ (fun ν _ => ?_)
    · simp only [M4_allThen]
      rw [M4_outside_eq N hn (by decide) (by decide), Option.bind_some, M4_other_eq N hw (by decide), Option.bind_some, M4_firstOf_eq N ho ht, Option.bind_some, fst1 o, if_pos (show inR (outZ n 0 99) from by omega), if_neg o, rf4 N ho]
    · simp only [M5_allThen, J5_allThen_24]
      rw [M5_wrongBy_eq N hn (by decide) (by decide), Option.bind_some, if_pos (show inR (outZ n 0 99) from by omega), if_neg o, if_pos (show inR (outZ n 0 99) from by omega), if_neg o, rf5 N ho]
/-! one alone in thought -/
def dysC : Nat → (Nat → Int) → (Nat → Int)
  | 0, q => q
  | n + 1, q => dayC (dysC n q)
theorem dayC_ok {q : Nat → Int} (h : okP q) : okP (dayC q) := okP_congr (dayP_ok h) (fun _ hk => dayC_p hk)
theorem dysC_ok {q : Nat → Int} (h : okP q) : ∀ n, okP (dysC n q) := by
  intro n
  induction n with
  | zero => exact h
  | succ n ih => exact dayC_ok ih
theorem dysC_p {q q' : Nat → Int} (h : ∀ k, k < 6 → q k = q' k) : ∀ n, ∀ k, k < 6 → dysC n q k = dayI n q' k := by
  intro n
  induction n with
  | zero => exact h
  | succ n ih =>
    intro k hk
    show dayC (dysC n q) k = dayP (dayI n q') k
    rw [dayC_p hk]
    exact dayP_congr ih k hk
/-- the trial as it starts: as he is, with that many grains -/
def trialQ (μ : mm) (c : Nat) (has : Int) : Nat → Int := fun k => if k = 2 then has else if k < 6 then μ c k else if k < 8 then 0 else μ 43 k
theorem trial_mu {μ : mm} {c : Nat} {has : Int} : mu (tkP 43 c μ) 43 2 has = putC μ 43 (trialQ μ c has) := by
  funext x y
  by_cases hx : x = 43
  · subst hx
    rw [putC_s]
    unfold trialQ
    by_cases h2 : y = 2
    · subst h2
      rw [mu_s, if_pos rfl]
    · rw [mu_j h2, if_neg h2]
      unfold tkP
      by_cases h8 : y < 8
      · rw [if_pos ⟨rfl, h8⟩]
        by_cases h6 : y < 6
        · rw [if_pos h6, if_pos h6]
        · rw [if_neg h6, if_neg h6, if_pos h8]
      · rw [if_neg (fun z => h8 z.2), if_neg (by omega), if_neg h8]
  · rw [mu_c hx, putC_row hx]
    unfold tkP
    rw [if_neg (fun z => hx z.1)]
theorem putC_putC {μ : mm} {c : Nat} {q q' : Nat → Int} : putC (putC μ c q) c q' = putC μ c q' := by
  funext x y
  unfold putC
  split <;> rfl
theorem thought_loop (N : Nat) {μ : mm} {q : Nat → Int} (h : okP q) (n : Nat) (hn : n ≤ 1000) : ∀ (k i : Nat), i ≤ n → n < i + k → L4_thought_26 N k (n : Int) (i : Int) (putC μ 43 (dysC i q)) = some (43, putC μ 43 (dysC n q)) := by
  intro k
  induction k with
  | zero => intro i h1 h2; omega
  | succ k ih =>
    intro i h1 h2
    rw [L4_thought_26, if_pos (show inR (i : Int) ∧ inR (n : Int) from by omega)]
    by_cases c : (n : Int) ≤ (i : Int)
    · rw [if_pos c, show i = n by omega]
    · rw [if_neg c, M2_oneDay_eq N 43 (by rw [putC_s]; exact dysC_ok h i), Option.bind_some, putC_s, putC_putC]
      exact ih (i + 1) (by omega) (by omega)
theorem trialQ_ok {μ : mm} {c : Nat} {has : Int} (h : okP (μ c)) (hh : 0 ≤ has ∧ has ≤ 99) : okP (trialQ μ c has) := ⟨h.1, h.2.1, hh, h.2.2.2.1, h.2.2.2.2.1, h.2.2.2.2.2⟩
theorem M4_thought_eq (N : Nat) {μ : mm} {p : Nat} (hp : p < 8) (h : okP (μ (10 + 2 + p))) {has : Int} (hh : 0 ≤ has ∧ has ≤ 99) (n : Nat) (hn : n ≤ 1000) (hN : n < N) : M4_thought N (p : Int) has (n : Int) μ = some (43, putC μ 43 (dysC n (trialQ μ (10 + 2 + p) has))) := by
  simp only [M4_thought, bnd]
  rw [M1_at_eq N 10 p hp, Option.bind_some, if_pos (kdo (Or.inl rfl) hp), M2_takeFrom_eq N (by omega), Option.bind_some, trial_mu]
  exact thought_loop N (trialQ_ok h hh) n hn N 0 (by omega) (by omega)
