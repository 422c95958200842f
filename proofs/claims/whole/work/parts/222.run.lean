/-! run, stock -/
theorem relD_day {o r : Nat} {d : Int} {μ ν : mm} (h : relD o r d μ ν) (ok : okR ν r) : relD o r d (dyO o μ) (dayR r ν) := by
  have hm := ok.1
  obtain ⟨h1, h2, h3, h4, h5⟩ := id h
  have hw : ∀ i : Nat, (i : Int) ≤ ν r 0 → wornO o μ i = wornU ν r i := by
    intro i
    induction i with
    | zero => intro _; exact h3
    | succ i ih =>
      intro hi
      show min 9999 (wornO o μ i + dgone (μ (o + 2 + i))) = min 9999 (wornU ν r i + dgone (pq ν r i))
      rw [ih (by omega), dgone_congr (q := pq ν r i) (q' := μ (o + 2 + i)) (fun k hk => h5 i (by omega) k hk)]
  unfold dyO dayR
  refine ⟨by rw [dyN_sc (by decide) (by decide), dayN_many]; exact h1, by rw [dyN_sc (by decide) (by decide), dayN_store]; exact h2, by rw [dyN_4, dayN_worn, h1]; exact hw _ (by omega), by rw [dyN_5, dayN_day, h4], fun p hp => ?_⟩
  rw [dayN_many] at hp
  have a := dayR_at (r := r) (μ := ν) hp (h5 p hp)
  unfold dayR at a
  intro k hk
  rw [a k hk, dyN_p (by omega), dayC_p hk]
theorem okS_day {o : Nat} {ξ : mm} (h : okS ξ o) : okS (dyO o ξ) o := by
  refine ⟨dyO_ok h.1, ?_⟩
  rw [show dyO o ξ o 3 = ξ o 3 from dyN_sc (by decide) (by decide)]
  exact h.2
theorem oneDay_eq (N : Nat) (hN : 200 ≤ N) {ξ : mm} (ok : okO ξ 21) : M1_daysGoBy N 21 1 ξ = some (dyO 21 ξ) := by
  have eD := M1_daysGoBy_eq N (o := 21) (Or.inr (Or.inl rfl)) (by omega) ok 1 (by decide) (by omega)
  rw [show ((1 : Nat) : Int) = 1 from rfl, show dysO 21 1 ξ = dyO 21 ξ from rfl] at eD
  exact eD
theorem dyO_c {ξ : mm} (ok : okO ξ 21) {a : Nat} (h1 : a ≠ 21) (h2 : a < 23 ∨ 31 ≤ a) : dyO 21 ξ a = ξ a := by
  have := ok.1
  exact dyN_c h1 (by omega)
theorem dayR_row {r a : Nat} {ν : mm} (h : a ≠ r) : dayR r ν a = ν a := funext fun _ => dayR_c h
theorem run_loop (N : Nat) (hN : 200 ≤ N) {w : Int} (hw : inR w) : ∀ (k i : Nat) (ξ : mm), i ≤ 61 → 61 < i + k → okS ξ 21 →
    ∃ (r : Int) (ξ' : mm), L4_run_29 N k w (i : Int) ξ = some (r, ξ') ∧ (∀ a, a ≠ 21 → (a < 23 ∨ 31 ≤ a) → ξ' a = ξ a) ∧
      ∀ ν : mm, relD 21 2 0 ξ ν → okR ν 2 → ν 2 1 ≤ 2000 + (i : Int) → ∃ ν', L5_run_29 N k w (i : Int) ν = some (r, ν') ∧ ∀ a, a ≠ 2 → ν' a = ν a := by
  intro k
  induction k with
  | zero => intro i ξ h1 h2; omega
  | succ k ih =>
    intro i ξ h1 h2 ok
    by_cases c : 60 < (i : Int)
    · refine ⟨-9, ξ, ?_, fun _ _ _ => rfl, fun ν _ _ _ => ⟨ν, ?_, fun _ _ => rfl⟩⟩
      · rw [L4_run_29, if_pos (show inR (i : Int) by omega), if_pos c]
      · rw [L5_run_29, if_pos (show inR (i : Int) by omega), if_pos c]
    · have hm := ok.1.1
      obtain ⟨r, ξ1, e, hr, ok1, m1, s1, fr, G⟩ := ahead_loop N N 0 ξ (by omega) (by omega) ok
      rw [show ((0 : Nat) : Int) = 0 from rfl] at e G
      have g4 : L4_run_29 N (k + 1) w (i : Int) ξ = if r < 0 then L4_run_29 N k w ((i : Int) + 1) (dyO 21 ξ1) else some (if w = 0 then (i : Int) else r, ξ1) := by
        rw [L4_run_29, if_pos (show inR (i : Int) by omega), if_neg c]
        unfold M1_issueAhead
        rw [e, Option.bind_some]
        dsimp only
        rw [if_pos (show inR r by omega), oneDay_eq N hN ok1.1, Option.bind_some, if_pos hw]
        split
        · rfl
        · split <;> rfl
      have g5 : ∀ (ν ν1 : mm) (r' : Int), L5_refusesOne_2 N N 0 ν = some (r', ν1) → inR r' → okR ν1 2 → L5_run_29 N (k + 1) w (i : Int) ν = if r' < 0 then L5_run_29 N k w ((i : Int) + 1) (dayR 2 ν1) else some (if w = 0 then (i : Int) else r', ν1) := by
        intro ν ν1 r' e' hr' okν
        rw [L5_run_29, if_pos (show inR (i : Int) by omega), if_neg c]
        unfold M5_refusesOne
        rw [e', Option.bind_some]
        dsimp only
        rw [if_pos hr', M5_day_eq N 2 (by omega) okν, Option.bind_some, if_pos hw]
        split
        · rfl
        · split <;> rfl
      have g5' : ∀ (ν ν1 : mm) (r' : Int), L5_refusesOne_2 N N 0 ν = some (r', ν1) → inR r' → 0 ≤ r' → L5_run_29 N (k + 1) w (i : Int) ν = some (if w = 0 then (i : Int) else r', ν1) := by
        intro ν ν1 r' e' hr' h0
        rw [L5_run_29, if_pos (show inR (i : Int) by omega), if_neg c]
        unfold M5_refusesOne
        rw [e', Option.bind_some]
        dsimp only
        rw [if_pos hr', if_neg (show ¬ r' < 0 by omega), if_pos hw]
        split <;> rfl
      by_cases d : r < 0
      · obtain ⟨r2, ξ2, e2, f2, G2⟩ := ih (i + 1) (dyO 21 ξ1) (by omega) (by omega) (okS_day ok1)
        refine ⟨r2, ξ2, by rw [g4, if_pos d]; exact e2, fun a h1 h2 => by rw [f2 a h1 h2, dyO_c ok1.1 h1 h2, fr a h1 h2], fun ν X okν hd => ?_⟩
        obtain ⟨r', ν1, e', hr', fr', A, B, C⟩ := G 0 ν (by omega) X okν
        obtain ⟨x1, x2, x3, x4⟩ := A d ok1.2.1
        obtain ⟨ν', e3, f3⟩ := G2 (dayR 2 ν1) (relD_day x2 x3) (dayR_ok x3 (by omega)) (by rw [show dayR 2 ν1 2 1 = ν1 2 1 + 1 from dayN_day, x4]; omega)
        refine ⟨ν', ?_, fun a h => by rw [f3 a h, dayR_row h, fr' a h]⟩
        rw [g5 ν ν1 r' e' (by omega) x3, if_pos (by omega)]
        exact e3
      · refine ⟨_, ξ1, by rw [g4, if_neg d], fr, fun ν X okν hd => ?_⟩
        obtain ⟨r', ν1, e', hr', fr', A, B, C⟩ := G 0 ν (by omega) X okν
        obtain ⟨x1, x2⟩ := C (by omega)
        have x3 := x2 rfl
        subst x3
        exact ⟨ν1, g5' ν ν1 r' e' (by omega) x1, fr'⟩
theorem okS_of {ξ ν : mm} {r : Nat} {d : Int} (h : relD 21 r d ξ ν) (ok : okR ν r) (hs : 0 ≤ ξ 21 3 ∧ ξ 21 3 ≤ 999) : okS ξ 21 := by
  obtain ⟨h1, h2, h3, h4, h5⟩ := h
  obtain ⟨o1, o2, o3, o4, o5⟩ := ok
  refine ⟨⟨by rw [h1]; exact o1, by rw [h3]; exact o4, fun p hp => ?_⟩, hs⟩
  rw [h1] at hp
  exact okP_congr (o5 p hp) (fun k hk => (h5 p hp k hk).symm)
theorem relD_0 {o r : Nat} {ξ ν : mm} (h : relX o r ξ ν) : relD o r 0 ξ ν := ⟨h.1, by rw [h.2.1]; omega, h.2.2⟩
theorem op_run (N : Nat) (hN : 200 ≤ N) {μ : mm} (R : Rel μ) {w : Int} (hw : inR w) : Op (M4_run N w) (M5_run N w) μ := by
  obtain ⟨⟨a1, a2, a3⟩, -⟩ := id R
  have hm := a2.1
  by_cases t : othZ w 1 = 0
  · have tt := othZ_0 t
    obtain ⟨X, okm, ok21⟩ := mind_days a1 a2 a3 (μ' := μ) rfl 0 (by omega)
    have oks : okS (mindT μ) 21 := ⟨ok21, by rw [show mindT μ 21 3 = μ 1 2 from (mindT_X a1 a2).2.1]; exact a2.2.2.1⟩
    obtain ⟨r, ξ', e4, f4, g⟩ := run_loop N hN hw N 0 (mindT μ) (by omega) (by omega) oks
    have r1 : ξ' 1 = μ 1 := by rw [f4 1 (by decide) (by omega), mindT_c a1 a2 (by decide) (by omega)]
    obtain ⟨X', okm', -⟩ := mind_days a1 a2 a3 r1 0 (by omega)
    have c1 : cp 1 2 ξ' 2 1 = μ 1 1 := by rw [cp_to (by decide), r1]
    obtain ⟨ν', e5, f5⟩ := g (cp 1 2 ξ') (relD_0 X') okm' (by rw [c1]; omega)
    rw [show ((0 : Nat) : Int) = 0 from rfl] at e4 e5
    refine ⟨r, ξ', ν', ?_, ?_, ?_⟩
    · simp only [M4_run]
      rw [M4_other_eq N hw (by decide), Option.bind_some, t, if_pos (by decide), if_pos rfl, mind_eq N (by omega) a1 a2, Option.bind_some]
      exact e4
    · simp only [M5_run]
      rw [M5_isIn_eq N hw (by decide) (by decide), Option.bind_some, if_pos tt, if_pos (by decide), if_neg (by decide), M5_copies_eq N 1 2 (by omega) (by decide), Option.bind_some]
      exact e5
    · refine Rel_scr R (fun a ha h0 => ?_) (fun i _ _ => ?_)
      · have := scr_ne ha
        rw [f5 a (by omega), cp_row (by omega), f4 a (by omega) (by omega), mindT_c a1 a2 (by omega) (by omega)]
      · rw [f5 0 (by decide), cp_c (by decide), f4 0 (by decide) (by omega), mindT_c a1 a2 (by decide) (by omega)]
  · obtain ⟨t1, t2⟩ := oth_no t
    refine Op_ref N R (c := -2) (by decide) ?_ (fun ν _ => ?_)
    · simp only [M4_run]
      rw [M4_other_eq N hw (by decide), Option.bind_some, t1, if_pos (by decide), if_neg (by decide), rf4 N (by decide)]
    · simp only [M5_run]
      rw [M5_isIn_eq N hw (by decide) (by decide), Option.bind_some, if_neg t2, if_pos (by decide), if_pos rfl, rf5 N (by decide)]
theorem stock_loop (N : Nat) (hN : 200 ≤ N) (n : Nat) (hn : n ≤ 30) : ∀ (k i : Nat) (ξ : mm), i ≤ n → n < i + k → okS ξ 21 →
    ∃ (r : Int) (ξ' : mm), L4_stock_41 N k (n : Int) (i : Int) ξ = some (r, ξ') ∧ (∀ a, a ≠ 21 → (a < 23 ∨ 31 ≤ a) → ξ' a = ξ a) ∧ (r = -9 ∨ (0 ≤ r ∧ r ≤ 999)) ∧ (0 ≤ r → 999 - ξ 21 3 ≤ r) ∧
      ∀ (d : Int) (ν : mm), 0 ≤ d → relD 21 2 d ξ ν → okR ν 2 → ν 2 1 ≤ 2000 + (i : Int) → ∃ ν', L5_servesAll_20 N k (n : Int) (i : Int) ν = some (if 0 ≤ r ∧ d ≤ 999 - r then 1 else 0, ν') ∧ ∀ a, a ≠ 2 → ν' a = ν a := by
  intro k
  induction k with
  | zero => intro i ξ h1 h2; omega
  | succ k ih =>
    intro i ξ h1 h2 ok
    have hs := ok.2
    by_cases c : (n : Int) ≤ (i : Int)
    · refine ⟨999 - ξ 21 3, ξ, ?_, fun _ _ _ => rfl, Or.inr (by omega), fun _ => Int.le_refl _, fun d ν hd X okν _ => ⟨ν, ?_, fun _ _ => rfl⟩⟩
      · rw [L4_stock_41, if_pos (show inR (i : Int) ∧ inR (n : Int) by omega), if_pos c]
      · have e := X.2.1
        have h2 := okν.2.2.1
        rw [L5_servesAll_20, if_pos (show inR (i : Int) ∧ inR (n : Int) by omega), if_pos c, if_pos (by omega)]
    · have hm := ok.1.1
      obtain ⟨r, ξ1, e, hr, ok1, m1, s1, fr, G⟩ := ahead_loop N N 0 ξ (by omega) (by omega) ok
      rw [show ((0 : Nat) : Int) = 0 from rfl] at e G
      have g4 : L4_stock_41 N (k + 1) (n : Int) (i : Int) ξ = if r < 0 then L4_stock_41 N k (n : Int) ((i : Int) + 1) (dyO 21 ξ1) else some (-9, ξ1) := by
        rw [L4_stock_41, if_pos (show inR (i : Int) ∧ inR (n : Int) by omega), if_neg c]
        unfold M1_issueAhead
        rw [e, Option.bind_some]
        dsimp only
        rw [if_pos (show inR r by omega), oneDay_eq N hN ok1.1, Option.bind_some]
      have g5 : ∀ (ν ν1 : mm) (r' : Int), L5_refusesOne_2 N N 0 ν = some (r', ν1) → inR r' → r' < 0 → okR ν1 2 → L5_servesAll_20 N (k + 1) (n : Int) (i : Int) ν = L5_servesAll_20 N k (n : Int) ((i : Int) + 1) (dayR 2 ν1) := by
        intro ν ν1 r' e' hr' h0 okν
        rw [L5_servesAll_20, if_pos (show inR (i : Int) ∧ inR (n : Int) by omega), if_neg c]
        unfold M5_refusesOne
        rw [e', Option.bind_some]
        dsimp only
        rw [if_pos hr', if_pos h0, M5_day_eq N 2 (by omega) okν, Option.bind_some]
      have g5' : ∀ (ν ν1 : mm) (r' : Int), L5_refusesOne_2 N N 0 ν = some (r', ν1) → inR r' → 0 ≤ r' → L5_servesAll_20 N (k + 1) (n : Int) (i : Int) ν = some (0, ν1) := by
        intro ν ν1 r' e' hr' h0
        rw [L5_servesAll_20, if_pos (show inR (i : Int) ∧ inR (n : Int) by omega), if_neg c]
        unfold M5_refusesOne
        rw [e', Option.bind_some]
        dsimp only
        rw [if_pos hr', if_neg (show ¬ r' < 0 by omega)]
      by_cases d : r < 0
      · obtain ⟨r2, ξ2, e2, f2, hr2, hs2, G2⟩ := ih (i + 1) (dyO 21 ξ1) (by omega) (by omega) (okS_day ok1)
        have e3 : dyO 21 ξ1 21 3 = ξ1 21 3 := dyN_sc (by decide) (by decide)
        rw [e3] at hs2
        refine ⟨r2, ξ2, by rw [g4, if_pos d]; exact e2, fun a h1 h2 => by rw [f2 a h1 h2, dyO_c ok1.1 h1 h2, fr a h1 h2], hr2, fun h => by have := hs2 h; omega, fun t ν ht X okν hd => ?_⟩
        obtain ⟨r', ν1, e', hr', fr', A, B, C⟩ := G t ν ht X okν
        by_cases u : t ≤ ξ1 21 3
        · obtain ⟨x1, x2, x3, x4⟩ := A d u
          obtain ⟨ν', e5, f5⟩ := G2 t (dayR 2 ν1) ht (relD_day x2 x3) (dayR_ok x3 (by omega)) (by rw [show dayR 2 ν1 2 1 = ν1 2 1 + 1 from dayN_day, x4]; omega)
          refine ⟨ν', ?_, fun a h => by rw [f5 a h, dayR_row h, fr' a h]⟩
          rw [g5 ν ν1 r' e' (by omega) (by omega) x3]
          exact e5
        · refine ⟨ν1, ?_, fr'⟩
          rw [g5' ν ν1 r' e' (by omega) (B d (by omega)), if_neg (fun z => by have := hs2 z.1; omega)]
      · refine ⟨-9, ξ1, by rw [g4, if_neg d], fr, Or.inl rfl, fun h => by omega, fun t ν ht X okν hd => ?_⟩
        obtain ⟨r', ν1, e', hr', fr', A, B, C⟩ := G t ν ht X okν
        refine ⟨ν1, ?_, fr'⟩
        rw [g5' ν ν1 r' e' (by omega) (C (by omega)).1, if_neg (fun z => by omega)]
theorem stock5 (N : Nat) (hN : 1100 ≤ N) {μ : mm} (a1 : relO 10 1 μ) (ok : okR μ 1) (hd : μ 1 1 ≤ 999) (n : Nat) (hn : n ≤ 30) (r : Int) (hr : r = -9 ∨ (0 ≤ r ∧ r ≤ 999)) (ξ : mm) (hX : ∀ (s : Nat) (ν : mm), s ≤ 999 → ν 1 = μ 1 → relD 21 2 (999 - (s : Int)) ξ (mu (cp 1 2 ν) 2 2 (s : Int)))
    (G : ∀ (d : Int) (ν : mm), 0 ≤ d → relD 21 2 d ξ ν → okR ν 2 → ν 2 1 ≤ 2000 + ((0 : Nat) : Int) → ∃ ν', L5_servesAll_20 N N (n : Int) ((0 : Nat) : Int) ν = some (if 0 ≤ r ∧ d ≤ 999 - r then 1 else 0, ν') ∧ ∀ a, a ≠ 2 → ν' a = ν a) :
    ∀ (k s : Nat) (ν : mm), s ≤ 1000 → 1000 < s + k → (0 ≤ r → (s : Int) ≤ r) → ν 1 = μ 1 → ∃ ν', L5_stock_20 N k (n : Int) (s : Int) ν = some (r, ν') ∧ ∀ a, a ≠ 2 → ν' a = ν a := by
  intro k
  induction k with
  | zero => intro s ν h1 h2; omega
  | succ k ih =>
    intro s ν h1 h2 hsr e1
    rw [L5_stock_20, if_pos (show inR (s : Int) by omega)]
    by_cases c : 999 < (s : Int)
    · rw [if_pos c]
      exact ⟨ν, by rw [show r = -9 by omega], fun _ _ => rfl⟩
    · have okc : okR (cp 1 2 ν) 2 := cp_ok (okR_congr ok e1)
      have oks : okR (mu (cp 1 2 ν) 2 2 (s : Int)) 2 := by
        obtain ⟨o1, o2, o3, o4, o5⟩ := okc
        refine ⟨by rw [mu_j (by decide)]; exact o1, by rw [mu_j (by decide)]; exact o2, by rw [mu_s]; omega, by rw [mu_j (by decide)]; exact o4, fun p hp => ?_⟩
        rw [mu_j (by decide)] at hp
        exact okP_congr (o5 p hp) (fun k hk => mu_j (by omega))
      obtain ⟨ν', e', f'⟩ := G (999 - (s : Int)) (mu (cp 1 2 ν) 2 2 (s : Int)) (by omega) (hX s ν (by omega) e1) oks (by rw [mu_j (by decide), cp_to (by decide), e1]; omega)
      rw [show ((0 : Nat) : Int) = 0 from rfl] at e'
      have fr : ∀ a, a ≠ 2 → ν' a = ν a := fun a h => by rw [f' a h, mu_row h, cp_row h]
      rw [if_neg c]
      simp only [M5_servesAll, bnd]
      rw [M5_copies_eq N 1 2 (by omega) (by decide), Option.bind_some, e', Option.bind_some]
      dsimp only
      by_cases u : 0 ≤ r ∧ 999 - (s : Int) ≤ 999 - r
      · rw [if_pos u, if_pos (by decide), if_neg (by decide)]
        exact ⟨ν', by rw [show (s : Int) = r by have := hsr u.1; omega], fr⟩
      · rw [if_neg u, if_pos (by decide), if_pos rfl]
        obtain ⟨ν2, e2, f2⟩ := ih (s + 1) ν' (by omega) (by omega) (fun h => by have := hsr h; omega) ((fr 1 (by decide)).trans e1)
        exact ⟨ν2, e2, fun a h => (f2 a h).trans (fr a h)⟩
theorem op_stock (N : Nat) (hN : 1100 ≤ N) {μ : mm} (R : Rel μ) {n : Int} (hn : inR n) : Op (M4_stock N n) (M5_stock N n) μ := by
  obtain ⟨⟨a1, a2, a3⟩, -⟩ := id R
  have hm := a2.1
  have ho := outZ_in n 1 30
  by_cases o : outZ n 1 30 = 0
  · have oo := outZ_0 o
    obtain ⟨j, rfl⟩ := Int.eq_ofNat_of_zero_le (show 0 ≤ n by omega)
    obtain ⟨X, okm, ok21⟩ := mind_days a1 a2 a3 (μ' := μ) rfl 0 (by omega)
    have frm : ∀ a, a ≠ 21 → mu (mindT μ) 21 3 999 a = mindT μ a := fun a h => mu_row h
    have oks : okS (mu (mindT μ) 21 3 999) 21 := by
      refine ⟨⟨by rw [mu_j (by decide)]; exact ok21.1, by rw [mu_j (by decide)]; exact ok21.2.1, fun p hp => ?_⟩, by rw [mu_s]; decide⟩
      rw [mu_j (by decide)] at hp
      rw [mu_row (by omega)]
      exact ok21.2.2 p hp
    obtain ⟨r, ξ', e4, f4, hr, -, G⟩ := stock_loop N (by omega) j (by omega) N 0 (mu (mindT μ) 21 3 999) (by omega) (by omega) oks
    have r1 : ξ' 1 = μ 1 := by rw [f4 1 (by decide) (by omega), frm 1 (by decide), mindT_c a1 a2 (by decide) (by omega)]
    have hX : ∀ (s : Nat) (ν : mm), s ≤ 999 → ν 1 = μ 1 → relD 21 2 (999 - (s : Int)) (mu (mindT μ) 21 3 999) (mu (cp 1 2 ν) 2 2 (s : Int)) := by
      intro s ν hs hν
      obtain ⟨x1, x2, x3, x4, x5⟩ := (mind_days a1 a2 a3 hν 0 (by omega)).1
      refine ⟨by rw [mu_j (by decide), mu_j (by decide)]; exact x1, by rw [mu_s, mu_s]; omega, by rw [mu_j (by decide), mu_j (by decide)]; exact x3, by rw [mu_j (by decide), mu_j (by decide)]; exact x4, fun p hp k hk => ?_⟩
      rw [mu_j (by decide)] at hp
      rw [mu_j (by omega), mu_c (by omega)]
      exact x5 p hp k hk
    obtain ⟨ν', e5, f5⟩ := stock5 N hN a1 a2 a3 j (by omega) r hr (mu (mindT μ) 21 3 999) hX G N 0 ξ' (by omega) (by omega) (fun h => h) r1
    rw [show ((0 : Nat) : Int) = 0 from rfl] at e4 e5
    refine ⟨r, ξ', ν', ?_, ?_, ?_⟩
    · simp only [M4_stock]
      rw [M4_outside_eq N hn (by decide) (by decide), Option.bind_some, o, if_pos (by decide), if_pos rfl, mind_eq N (by omega) a1 a2, Option.bind_some]
      exact e4
    · simp only [M5_stock]
      rw [M5_wrongBy_eq N hn (by decide) (by decide), Option.bind_some, o, if_pos (by decide), if_pos rfl]
      exact e5
    · refine Rel_scr R (fun a ha h0 => ?_) (fun i _ _ => ?_)
      · have := scr_ne ha
        rw [f5 a (by omega), f4 a (by omega) (by omega), frm a (by omega), mindT_c a1 a2 (by omega) (by omega)]
      · rw [f5 0 (by decide), f4 0 (by decide) (by omega), frm 0 (by decide), mindT_c a1 a2 (by decide) (by omega)]
  · refine Op_ref N R (c := outZ n 1 30) (by omega) ?_ (fun ν _ => ?_)
    · simp only [M4_stock]
      rw [M4_outside_eq N hn (by decide) (by decide), Option.bind_some, if_pos (show inR (outZ n 1 30) by omega), if_neg o, rf4 N ho]
    · simp only [M5_stock]
      rw [M5_wrongBy_eq N hn (by decide) (by decide), Option.bind_some, if_pos (show inR (outZ n 1 30) by omega), if_neg o, rf5 N ho]
