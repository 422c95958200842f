/-! days of an office -/
def okO (μ : mm) (o : Nat) : Prop := (0 ≤ μ o 2 ∧ μ o 2 ≤ 8) ∧ (0 ≤ μ o 4 ∧ μ o 4 ≤ 9999) ∧ ∀ p : Nat, (p : Int) < μ o 2 → okP (μ (o + 2 + p))
def wornO (o : Nat) (μ : mm) : Nat → Int
  | 0 => μ o 4
  | n + 1 => min 9999 (wornO o μ n + dgone (μ (o + 2 + n)))
def dyN (o n : Nat) (μ : mm) : mm := fun x y => if x = o then (if y = 5 then μ o 5 + 1 else if y = 4 then wornO o μ n else μ o y) else if o + 2 ≤ x ∧ x < o + 2 + n then dayC (μ x) y else μ x y
theorem wornO_in {μ : mm} {o : Nat} (h : okO μ o) : ∀ n : Nat, (n : Int) ≤ μ o 2 → 0 ≤ wornO o μ n ∧ wornO o μ n ≤ 9999 := by
  intro n
  induction n with
  | zero => intro _; exact h.2.1
  | succ n ih =>
    intro hn
    have a := ih (by omega)
    have b := dgone_in (h.2.2 n (by omega))
    show 0 ≤ min 9999 (wornO o μ n + dgone (μ (o + 2 + n))) ∧ min 9999 (wornO o μ n + dgone (μ (o + 2 + n))) ≤ 9999
    omega
theorem dyN_0 (o : Nat) (μ : mm) : mu μ o 5 (μ o 5 + 1) = dyN o 0 μ := by
  funext x y
  unfold dyN
  by_cases hx : x = o
  · subst hx
    rw [if_pos rfl]
    by_cases c : y = 5
    · subst c
      rw [if_pos rfl, mu_s]
    · rw [if_neg c, mu_j c]
      by_cases d : y = 4
      · subst d
        rw [if_pos rfl]
        rfl
      · rw [if_neg d]
  · rw [if_neg hx, if_neg (by omega), mu_c hx]
theorem dyN_c {o n x : Nat} {μ : mm} (h : x ≠ o) (hx : x < o + 2 ∨ o + 2 + n ≤ x) : dyN o n μ x = μ x := by
  funext y
  unfold dyN
  rw [if_neg h, if_neg (by omega)]
theorem dyN_p {o n p : Nat} {μ : mm} (h : p < n) : dyN o n μ (o + 2 + p) = dayC (μ (o + 2 + p)) := by
  funext y
  unfold dyN
  rw [if_neg (by omega), if_pos (by omega)]
theorem dyN_sc {o n y : Nat} {μ : mm} (h : y ≠ 5) (h4 : y ≠ 4) : dyN o n μ o y = μ o y := by
  unfold dyN
  rw [if_pos rfl, if_neg h, if_neg h4]
theorem dyN_5 {o n : Nat} {μ : mm} : dyN o n μ o 5 = μ o 5 + 1 := by
  unfold dyN
  rw [if_pos rfl, if_pos rfl]
theorem dyN_4 {o n : Nat} {μ : mm} : dyN o n μ o 4 = wornO o μ n := by
  unfold dyN
  rw [if_pos rfl, if_neg (by decide), if_pos rfl]
theorem dyN_step {o i : Nat} {μ : mm} : mu (putC (dyN o i μ) (o + 2 + i) (dayC (μ (o + 2 + i)))) o 4 (min 9999 (wornO o μ i + dgone (μ (o + 2 + i)))) = dyN o (i + 1) μ := by
  funext x y
  by_cases hx : x = o
  · subst hx
    by_cases h4 : y = 4
    · subst h4
      rw [mu_s, dyN_4]
      rfl
    · rw [mu_j h4, putC_row (by omega)]
      unfold dyN
      rw [if_pos rfl, if_pos rfl, if_neg h4, if_neg h4]
  · rw [mu_c hx]
    by_cases hi : x = o + 2 + i
    · subst hi
      rw [putC_s, dyN_p (by omega)]
    · rw [putC_row hi]
      unfold dyN
      rw [if_neg hx, if_neg hx]
      by_cases d : o + 2 ≤ x ∧ x < o + 2 + i
      · rw [if_pos d, if_pos (by omega)]
      · rw [if_neg d, if_neg (by omega)]
theorem daysGoBy_in (N : Nat) {o : Nat} (ho : isO o) (rec2 : Nat → Int → Int → mm → Option mm) (x1 x2 : Int) {μ : mm} (h : okO μ o) : ∀ (k i : Nat), (i : Int) ≤ μ o 2 → μ o 2 < (i : Int) + k → L1_daysGoBy_19 N rec2 k o x1 x2 (i : Int) (dyN o i μ) = rec2 o x1 (x2 + 1) (dyN o (μ o 2).toNat μ) := by
  have hm := h.1
  intro k
  induction k with
  | zero => intro i h1 h2; omega
  | succ k ih =>
    intro i h1 h2
    rw [L1_daysGoBy_19, dyN_sc (show 2 ≠ 5 by decide) (by decide), if_pos (show inR (i : Int) ∧ inR (μ o 2) from by omega)]
    by_cases c : μ o 2 ≤ (i : Int)
    · rw [if_pos c, show i = (μ o 2).toNat by omega]
    · have hi : i < 8 := by omega
      have hq := h.2.2 i (by omega)
      have hw := wornO_in h i h1
      have hg := dgone_in hq
      have e : dyN o i μ (o + 2 + i) = μ (o + 2 + i) := dyN_c (by omega) (by omega)
      rw [if_neg c, M1_at_eq N o i hi, Option.bind_some, if_pos (kdO ho hi), M2_oneDay_eq N _ (by rw [e]; exact hq), Option.bind_some, e]
      dsimp only
      have e4 : putC (dyN o i μ) (o + 2 + i) (dayC (μ (o + 2 + i))) o 4 = wornO o μ i := by
        rw [putC_row (by omega), dyN_4]
      rw [M1_wear_eq N o _ _ (by rw [e4]; exact hw) (by omega), Option.bind_some, e4, dyN_step]
      exact ih (i + 1) (by omega) (by omega)
def dyO (o : Nat) (μ : mm) : mm := dyN o (μ o 2).toNat μ
def dysO (o : Nat) : Nat → mm → mm
  | 0, μ => μ
  | n + 1, μ => dyO o (dysO o n μ)
theorem okP_congr {q q' : Nat → Int} (h : okP q) (e : ∀ k, k < 6 → q' k = q k) : okP q' := by
  unfold okP at h ⊢
  rw [e 0 (by decide), e 1 (by decide), e 2 (by decide), e 3 (by decide), e 4 (by decide), e 5 (by decide)]
  exact h
theorem dyO_ok {o : Nat} {μ : mm} (h : okO μ o) : okO (dyO o μ) o := by
  have hm := h.1
  have hw := wornO_in h (μ o 2).toNat (by omega)
  unfold dyO
  refine ⟨by rw [dyN_sc (by decide) (by decide)]; exact hm, by rw [dyN_4]; exact hw, fun p hp => ?_⟩
  rw [dyN_sc (by decide) (by decide)] at hp
  rw [dyN_p (by omega)]
  exact okP_congr (dayP_ok (h.2.2 p hp)) (fun k hk => dayC_p hk)
theorem dysO_ok {o : Nat} {μ : mm} (h : okO μ o) : ∀ n, okO (dysO o n μ) o := by
  intro n
  induction n with
  | zero => exact h
  | succ n ih => exact dyO_ok ih
theorem daysGoBy_loop (N : Nat) {o : Nat} (ho : isO o) {μ : mm} (hN : 9 ≤ N) (h : okO μ o) (n : Nat) (hn : n ≤ 1000) : ∀ (k i : Nat), i ≤ n → n < i + k → L1_daysGoBy_2 N k o (n : Int) (i : Int) (dysO o i μ) = some (dysO o n μ) := by
  intro k
  induction k with
  | zero => intro i h1 h2; omega
  | succ k ih =>
    intro i h1 h2
    have ok := dysO_ok h i
    have hm := ok.1
    rw [L1_daysGoBy_2, if_pos (show inR (i : Int) ∧ inR (n : Int) from by omega)]
    by_cases c : (n : Int) ≤ (i : Int)
    · rw [if_pos c, show i = n by omega]
    · rw [if_neg c]
      simp only [bnd]
      rw [dyN_0]
      have := daysGoBy_in N ho (L1_daysGoBy_2 N k) (n : Int) (i : Int) ok N 0 (by omega) (by omega)
      rw [show ((0 : Nat) : Int) = 0 from rfl] at this
      rw [this]
      exact ih (i + 1) (by omega) (by omega)
theorem M1_daysGoBy_eq (N : Nat) {o : Nat} (ho : isO o) {μ : mm} (hN : 9 ≤ N) (h : okO μ o) (n : Nat) (hn : n ≤ 1000) (hnN : n < N) : M1_daysGoBy N o (n : Int) μ = some (dysO o n μ) :=
  daysGoBy_loop N ho hN h n hn N 0 (by omega) (by omega)
theorem dysO_c {o x : Nat} {μ : mm} (h : okO μ o) (hx : x ≠ o) (hb : x < o + 2 ∨ o + 10 ≤ x) : ∀ n, dysO o n μ x = μ x := by
  intro n
  induction n with
  | zero => rfl
  | succ n ih =>
    have hm := (dysO_ok h n).1
    show dyN o (dysO o n μ o 2).toNat (dysO o n μ) x = μ x
    rw [dyN_c hx (by omega), ih]
/-- office o of one memory against row r of another -/
def relX (o r : Nat) (μ ν : mm) : Prop := μ o 2 = ν r 0 ∧ μ o 3 = ν r 2 ∧ μ o 4 = ν r 3 ∧ μ o 5 = ν r 1 ∧ ∀ p : Nat, (p : Int) < ν r 0 → at6 ν r p (μ (o + 2 + p))
theorem okO_of {o r : Nat} {μ ν : mm} (h : relX o r μ ν) (ok : okR ν r) : okO μ o := by
  obtain ⟨h1, h2, h3, h4, h5⟩ := h
  obtain ⟨o1, o2, o3, o4, o5⟩ := ok
  refine ⟨by rw [h1]; exact o1, by rw [h3]; exact o4, fun p hp => ?_⟩
  rw [h1] at hp
  exact okP_congr (o5 p hp) (fun k hk => (h5 p hp k hk).symm)
theorem dgone_congr {q q' : Nat → Int} (h : ∀ k, k < 6 → q k = q' k) : dgone q = dgone q' := by
  unfold dgone goneP
  rw [h 0 (by decide), h 1 (by decide), h 2 (by decide), h 3 (by decide)]
theorem wornO_eq {o r : Nat} {μ ν : mm} (h : relX o r μ ν) : ∀ i : Nat, (i : Int) ≤ ν r 0 → wornO o μ i = wornU ν r i := by
  intro i
  induction i with
  | zero => intro _; exact h.2.2.1
  | succ i ih =>
    intro hi
    show min 9999 (wornO o μ i + dgone (μ (o + 2 + i))) = min 9999 (wornU ν r i + dgone (pq ν r i))
    rw [ih (by omega), dgone_congr (q := pq ν r i) (q' := μ (o + 2 + i)) (fun k hk => h.2.2.2.2 i (by omega) k hk)]
theorem relX_day {o r : Nat} {μ ν : mm} (h : relX o r μ ν) (ok : okR ν r) : relX o r (dyO o μ) (dayR r ν) := by
  have hw := wornO_eq h (ν r 0).toNat (by have := ok.1; omega)
  have hm := ok.1
  obtain ⟨h1, h2, h3, h4, h5⟩ := id h
  unfold dyO dayR
  refine ⟨by rw [dyN_sc (by decide) (by decide), dayN_many]; exact h1, by rw [dyN_sc (by decide) (by decide), dayN_store]; exact h2, by rw [dyN_4, dayN_worn, h1]; exact hw, by rw [dyN_5, dayN_day, h4], fun p hp => ?_⟩
  rw [dayN_many] at hp
  have a := dayR_at (r := r) (μ := ν) hp (h5 p hp)
  unfold dayR at a
  intro k hk
  rw [a k hk, dyN_p (by omega), dayC_p hk]
theorem relX_days {o r : Nat} {μ ν : mm} (h : relX o r μ ν) (ok : okR ν r) : ∀ n : Nat, ν r 1 + (n : Int) ≤ 1000000 → relX o r (dysO o n μ) (days r n ν) := by
  intro n
  induction n with
  | zero => intro _; exact h
  | succ n ih =>
    intro hn
    exact relX_day (ih (by omega)) (days_ok ok n (by omega))
theorem relX_congr {o r r' : Nat} {μ ν μ' ν' : mm} (h : relX o r μ ν) (hm : ν r 0 ≤ 8) (ho : μ' o = μ o) (hp : ∀ p, p < 8 → μ' (o + 2 + p) = μ (o + 2 + p)) (hr : ∀ j, j < 52 → ν' r' j = ν r j) : relX o r' μ' ν' := by
  obtain ⟨h1, h2, h3, h4, h5⟩ := h
  refine ⟨by rw [ho, hr 0 (by decide)]; exact h1, by rw [ho, hr 2 (by decide)]; exact h2, by rw [ho, hr 3 (by decide)]; exact h3, by rw [ho, hr 1 (by decide)]; exact h4, fun p hpm => ?_⟩
  rw [hr 0 (by decide)] at hpm
  intro k hk
  rw [hr _ (by omega), hp p (by omega)]
  exact h5 p hpm k hk
theorem relX_sum {o r : Nat} {μ ν : mm} (h : relX o r μ ν) (w : Nat) (hw : w < 6) : sumN (fun p => μ (o + 2 + p) w) (μ o 2).toNat = sumN (fun p => ν r (4 + 6 * p + w)) (ν r 0).toNat := by
  rw [h.1]
  exact sumN_congr _ (fun i hi => (h.2.2.2.2 i (by omega) w hw).symm)
theorem op_days (N : Nat) (hN : 100 ≤ N) {μ : mm} (R : Rel μ) {n : Int} (hn : inR n) : Op (M4_days N n) (M5_days N n) μ := by
  obtain ⟨⟨a1, a2, a3⟩, -⟩ := id R
  have hm := a2.1
  have hd := a2.2.1
  have ho := outZ_in n 1 60
  have X : relX 10 1 μ μ := a1
  have e4 : M4_days N n μ = if outZ n 1 60 = 0 ∧ μ 1 1 + n ≤ 999 then J4_days_30 N n 0 μ else M4_refused N (if outZ n 1 60 = 0 then -6 else outZ n 1 60) μ := by
    simp only [M4_days]
    rw [M4_outside_eq N hn (by decide) (by decide), Option.bind_some, if_pos (show inR (outZ n 1 60) from by omega), a1.2.2.2.1]
    by_cases o : outZ n 1 60 = 0
    · have oo := outZ_0 o
      rw [if_pos o, if_pos (show inR (μ 1 1 + n) from by omega), o]
      by_cases c : μ 1 1 + n ≤ 999
      · rw [if_pos c, if_pos ⟨rfl, c⟩]
      · rw [if_neg c, if_neg (fun z => c z.2), if_pos rfl]
        simp only [J4_days_30]
        rw [if_pos (by decide), if_neg (by decide), rf4 N (by decide)]
    · rw [if_neg o, if_neg (fun z => o z.1), if_neg o]
      simp only [J4_days_30]
      rw [if_pos (show inR (outZ n 1 60) from by omega), if_neg o, rf4 N ho]
  have m5 : ∀ ν : mm, ν 1 1 = μ 1 1 → ¬ (outZ n 1 60 = 0 ∧ μ 1 1 + n ≤ 999) → M5_days N n ν = M5_no N (if outZ n 1 60 = 0 then -6 else outZ n 1 60) ν := by
    intro ν hν hc
    simp only [M5_days, J5_days_32]
    rw [if_pos hn, if_pos hn, rf5 N (by decide), rf5 N (by decide), hν]
    unfold outZ at hc ⊢
    by_cases h1 : n < 1
    · rw [if_neg (show ¬ 1 ≤ n by omega), if_pos h1, if_neg (by decide)]
    · rw [if_pos (show 1 ≤ n by omega), if_neg h1]
      rw [if_neg h1] at hc
      by_cases h2 : 60 < n
      · rw [if_pos h2, if_pos h2, if_neg (by decide)]
      · rw [if_neg h2] at hc
        have hc' : ¬ μ 1 1 + n ≤ 999 := fun z => hc ⟨rfl, z⟩
        rw [if_neg h2, if_neg h2, if_pos (show inR (μ 1 1 + n) from by omega), if_neg hc', if_pos rfl]
  by_cases c : outZ n 1 60 = 0 ∧ μ 1 1 + n ≤ 999
  · obtain ⟨o, c2⟩ := id c
    have oo := outZ_0 o
    obtain ⟨j, rfl⟩ := Int.eq_ofNat_of_zero_le (show 0 ≤ n by omega)
    have okO1 := okO_of X a2
    have X1 : relX 10 1 (dysO 10 j μ) (days 1 j μ) := relX_days X a2 j (by omega)
    have ok1 := days_ok a2 j (by omega)
    have hr1 : dysO 10 j μ 1 = μ 1 := dysO_c okO1 (by decide) (by omega) j
    have hdr : ∀ i, i < 52 → days 1 j (dysO 10 j μ) 1 i = days 1 j μ 1 i := by
      have hrow : ∀ t, days 1 t (dysO 10 j μ) 1 = days 1 t μ 1 := by
        intro t
        induction t with
        | zero => exact hr1
        | succ t ih =>
          funext b
          show dayN 1 (days 1 t (dysO 10 j μ) 1 0).toNat (days 1 t (dysO 10 j μ)) 1 b = dayN 1 (days 1 t μ 1 0).toNat (days 1 t μ) 1 b
          have wU : ∀ i, wornU (days 1 t (dysO 10 j μ)) 1 i = wornU (days 1 t μ) 1 i := by
            intro i
            induction i with
            | zero => show days 1 t (dysO 10 j μ) 1 3 = days 1 t μ 1 3; rw [ih]
            | succ i ihi =>
              show min 9999 (wornU (days 1 t (dysO 10 j μ)) 1 i + dgone (pq (days 1 t (dysO 10 j μ)) 1 i)) = min 9999 (wornU (days 1 t μ) 1 i + dgone (pq (days 1 t μ) 1 i))
              rw [ihi]
              unfold pq
              rw [ih]
          unfold dayN pq
          rw [wU, ih]
      intro i _
      rw [hrow j]
    have Xf : relX 10 1 (days 1 j (dysO 10 j μ)) (days 1 j (dysO 10 j μ)) := relX_congr X1 ok1.1.2 (funext fun b => days_c (by decide) j) (fun p hp => funext fun b => days_c (by omega) j) hdr
    refine ⟨sumN (fun p => days 1 j μ 1 (4 + 6 * p + 4)) (days 1 j μ 1 0).toNat - sumN (fun p => μ 1 (4 + 6 * p + 4)) (μ 1 0).toNat, dysO 10 j μ, days 1 j (dysO 10 j μ), ?_, ?_, ?_⟩
    · rw [e4, if_pos c]
      simp only [J4_days_30]
      rw [if_pos (by decide), if_pos trivial, M1_allThrough_eq N (Or.inl rfl) (by omega) (by rw [a1.1]; exact hm), Option.bind_some, M1_daysGoBy_eq N (Or.inl rfl) (by omega) okO1 j (by omega) (by omega), Option.bind_some, M1_allThrough_eq N (Or.inl rfl) (by omega) (by rw [X1.1]; exact ok1.1), Option.bind_some, relX_sum X1 4 (by decide), relX_sum X 4 (by decide)]
    · have okm : okR (dysO 10 j μ) 1 := okR_congr a2 hr1
      have e0 := M5_allOf_eq N 1 4 (by decide) (by omega) (μ := dysO 10 j μ) okm.1
      have okd := days_ok okm j (by rw [hr1]; omega)
      have e1 := M5_allOf_eq N 1 4 (by decide) (by omega) (μ := days 1 j (dysO 10 j μ)) okd.1
      rw [show ((4 : Nat) : Int) = 4 from rfl] at e0 e1
      simp only [M5_days]
      rw [if_pos hn, if_pos (show 1 ≤ (j : Int) by omega), if_pos hn, if_neg (show ¬ 60 < (j : Int) by omega), hr1, if_pos (show inR (μ 1 1 + (j : Int)) from by omega), if_pos c2, e0, Option.bind_some, M5_daysOn_eq N 1 (by omega) okm j (by rw [hr1]; omega) (by omega), Option.bind_some, e1, Option.bind_some, hr1]
      have hz : sumN (fun p => days 1 j (dysO 10 j μ) 1 (4 + 6 * p + 4)) (days 1 j (dysO 10 j μ) 1 0).toNat = sumN (fun p => days 1 j μ 1 (4 + 6 * p + 4)) (days 1 j μ 1 0).toNat := by
        rw [hdr 0 (by decide)]
        refine sumN_congr _ (fun i hi => hdr _ ?_)
        have := ok1.1
        omega
      rw [hz]
    · refine Rel_off R ⟨Xf, ?_, ?_⟩ ?_
      · exact okR_row ok1 hdr
      · rw [hdr 1 (by decide), days_day]
        exact c2
      · intro a h1 h10 hx
        rw [show days 1 j (dysO 10 j μ) a = dysO 10 j μ a from funext fun b => days_c h1 j, dysO_c okO1 h10 (by omega)]
  · refine Op_ref N R (c := if outZ n 1 60 = 0 then -6 else outZ n 1 60) (by split <;> omega) ?_ (fun ν hν => ?_)
    · rw [e4, if_neg c]
    · exact m5 ν (by rw [hν, r4_c (by decide)]) c
