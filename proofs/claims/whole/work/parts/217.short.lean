/-! short and through on a day; lasts, enough -/
theorem shoP_in (q : Nat → Int) : 0 ≤ shoP q ∧ shoP q ≤ 1 := by unfold shoP; split <;> omega
theorem thrP_in (q : Nat → Int) : 0 ≤ thrP q ∧ thrP q ≤ 1 := by unfold thrP; split <;> omega
theorem shoP_congr {q q' : Nat → Int} (h : ∀ k, k < 6 → q k = q' k) : shoP q = shoP q' := by
  unfold shoP
  rw [h 0 (by decide), h 1 (by decide), h 2 (by decide), h 3 (by decide)]
theorem thrP_congr {q q' : Nat → Int} (h : ∀ k, k < 6 → q k = q' k) : thrP q = thrP q' := by
  unfold thrP
  rw [h 0 (by decide), h 1 (by decide), h 2 (by decide), h 3 (by decide)]
theorem M5_isShortOn_eq (N p : Nat) (hp : p < 8) {ν : mm} {q : Nat → Int} (h6 : at6 ν 4 p q) (h : okP q) : M5_isShortOn N (p : Int) ν = some (shoP q) := by
  have hn := needsZ_in (k := q 0) h.2.1
  obtain ⟨h0, h1, h2, h3, -⟩ := id h
  unfold M5_isShortOn shoP
  rw [if_pos (ixg hp (by decide)), ix3, h6 3 (by decide), if_pos (show inR (q 3) from by omega), if_pos (ixg hp (by decide)), ix2, h6 2 (by decide), M5_needs_eq N 4 p ν hp h6 h, Option.bind_some, if_pos (show inR (q 2) ∧ inR (needsZ (q 0) (q 1)) from by omega)]
  by_cases c : q 3 = 1
  · rw [if_pos c]
    by_cases d : needsZ (q 0) (q 1) ≤ q 2
    · rw [if_pos d, if_neg (fun z => z.2 d)]
    · rw [if_neg d, if_pos ⟨c, d⟩]
  · rw [if_neg c, if_neg (fun z => c z.1)]
theorem M5_isThroughOn_eq (N p : Nat) (hp : p < 8) {ν : mm} {q : Nat → Int} (h6 : at6 ν 4 p q) (h : okP q) : M5_isThroughOn N (p : Int) ν = some (thrP q) := by
  have hn := needsZ_in (k := q 0) h.2.1
  obtain ⟨h0, h1, h2, h3, -⟩ := id h
  unfold M5_isThroughOn thrP
  rw [if_pos (ixg hp (by decide)), ix3, h6 3 (by decide), if_pos (show inR (q 3) from by omega), if_pos (ixg hp (by decide)), ix2, h6 2 (by decide), M5_needs_eq N 4 p ν hp h6 h, Option.bind_some, if_pos (show inR (q 2) ∧ inR (needsZ (q 0) (q 1)) from by omega)]
  by_cases c : q 3 = 1
  · rw [if_pos c]
    by_cases d : needsZ (q 0) (q 1) ≤ q 2
    · rw [if_neg (show ¬ q 2 < needsZ (q 0) (q 1) by omega), if_pos ⟨c, d⟩]
    · rw [if_pos (show q 2 < needsZ (q 0) (q 1) by omega), if_neg (fun z => d z.2)]
  · rw [if_neg c, if_neg (fun z => c z.1)]
/-- how often short in n days -/
def shoN : Nat → (Nat → Int) → Int
  | 0, _ => 0
  | n + 1, q => shoN n q + shoP (dayI n q)
theorem shoN_mono (q : Nat → Int) (i : Nat) : ∀ d, 0 ≤ shoN i q ∧ shoN i q ≤ shoN (i + d) q ∧ shoN i q ≤ (i : Int) := by
  have h0 : ∀ i, 0 ≤ shoN i q ∧ shoN i q ≤ (i : Int) := by
    intro i
    induction i with
    | zero => exact ⟨Int.le_refl _, Int.le_refl _⟩
    | succ i ih =>
      have := shoP_in (dayI i q)
      show 0 ≤ shoN i q + shoP (dayI i q) ∧ shoN i q + shoP (dayI i q) ≤ ((i + 1 : Nat) : Int)
      omega
  intro d
  refine ⟨(h0 i).1, ?_, (h0 i).2⟩
  induction d with
  | zero => exact Int.le_refl _
  | succ d ih =>
    have := shoP_in (dayI (i + d) q)
    show shoN i q ≤ shoN (i + d) q + shoP (dayI (i + d) q)
    omega
theorem dysC_7 {q q' : Nat → Int} (h : ∀ k, k < 6 → q k = q' k) : ∀ n, dysC n q 7 = q 7 + shoN n q' := by
  intro n
  induction n with
  | zero => show q 7 = q 7 + 0; omega
  | succ n ih =>
    show dysC n q 7 + shoP (dysC n q) = q 7 + (shoN n q' + shoP (dayI n q'))
    rw [shoP_congr (q := dysC n q) (q' := dayI n q') (dysC_p h n)]
    omega
theorem okR_at {ν : mm} {r p : Nat} (h : okR ν r) (hp : (p : Int) < ν r 0) {q : Nat → Int} (h6 : at6 ν r p q) : okP q := okP_congr (h.2.2.2.2 p hp) (fun k hk => (h6 k hk).symm)
theorem isShortWithin_loop (N p n : Nat) (hN : 100 ≤ N) (hp : p < 8) (hn : n ≤ 100) (q : Nat → Int) (hq : okP q) : ∀ (k i : Nat) (ν : mm), i ≤ n → n < i + k → shoN i q = 0 → okR ν 2 → (p : Int) < ν 2 0 → ν 2 1 ≤ 2000 + (i : Int) → at6 ν 2 p (dayI i q) → ∃ ν', L5_isShortWithin_2 N k (p : Int) (n : Int) (i : Int) ν = some (if shoN n q = 0 then 0 else 1, ν') ∧ ∀ a, a ≠ 2 → a ≠ 4 → ν' a = ν a := by
  intro k
  induction k with
  | zero => intro i ν h1 h2; omega
  | succ k ih =>
    intro i ν h1 h2 hs ok hm hd h6
    rw [L5_isShortWithin_2, if_pos (show inR (i : Int) ∧ inR (n : Int) from by omega)]
    by_cases c : (n : Int) ≤ (i : Int)
    · obtain rfl : i = n := by omega
      rw [if_pos c, if_pos hs]
      exact ⟨ν, rfl, fun a _ _ => rfl⟩
    · have e2 : cp 2 4 ν 2 = ν 2 := cp_row (by decide)
      have ok2 : okR (cp 2 4 ν) 2 := okR_congr ok e2
      have h4 : at6 (dayR 2 (cp 2 4 ν)) 4 p (dayI i q) := by
        intro k hk
        rw [dayR_c (by decide)]
        exact cp_at hp h6 k hk
      have fr : ∀ a, a ≠ 2 → a ≠ 4 → dayR 2 (cp 2 4 ν) a = ν a := by
        intro a h2 h4
        rw [show dayR 2 (cp 2 4 ν) a = cp 2 4 ν a from funext fun b => dayR_c h2, cp_row h4]
      rw [if_neg c, M5_copies_eq N 2 4 (by omega) (by decide), Option.bind_some, M5_day_eq N 2 (by omega) ok2, Option.bind_some, M5_isShortOn_eq N p hp h4 (dayI_ok hq i), Option.bind_some]
      have hsp := shoP_in (dayI i q)
      rw [if_pos (show inR (shoP (dayI i q)) from by omega)]
      by_cases d : shoP (dayI i q) = 0
      · rw [if_pos d]
        obtain ⟨ν', e, f⟩ := ih (i + 1) (dayR 2 (cp 2 4 ν)) (by omega) (by omega) (by show shoN i q + shoP (dayI i q) = 0; omega) (dayR_ok ok2 (by rw [e2]; omega)) (by rw [show dayR 2 (cp 2 4 ν) 2 0 = cp 2 4 ν 2 0 from dayN_many, e2]; exact hm) (by rw [show dayR 2 (cp 2 4 ν) 2 1 = cp 2 4 ν 2 1 + 1 from dayN_day, e2]; omega) (dayR_at (by rw [e2]; exact hm) (by intro k hk; rw [e2]; exact h6 k hk))
        exact ⟨ν', e, fun a h2 h4 => (f a h2 h4).trans (fr a h2 h4)⟩
      · rw [if_neg d]
        have := (shoN_mono q (i + 1) (n - (i + 1))).2.1
        rw [show i + 1 + (n - (i + 1)) = n by omega, show shoN (i + 1) q = shoN i q + shoP (dayI i q) from rfl] at this
        rw [if_neg (show ¬ shoN n q = 0 by omega)]
        exact ⟨_, rfl, fr⟩
/-- the first number from v on, of k in all -/
def enZ (f : Nat → Int) : Nat → Nat → Int
  | 0, _ => -9
  | k + 1, v => if f v = 0 then (v : Int) else enZ f k (v + 1)
theorem enough4 (N : Nat) {μ : mm} {p : Nat} (hp : p < 8) (hq : okP (μ (10 + 2 + p))) (n : Nat) (hn : n ≤ 100) (hN : 200 ≤ N) : ∀ (k v : Nat) (ν : mm), v ≤ 100 → 100 < v + k → (∀ a, a ≠ 43 → ν a = μ a) → ∃ ν', L4_enough_30 N k (p : Int) (n : Int) (v : Int) ν = some (enZ (fun v => shoN n (fu (μ (10 + 2 + p)) 2 (v : Int))) (100 - v) v, ν') ∧ ∀ a, a ≠ 43 → ν' a = μ a := by
  intro k
  induction k with
  | zero => intro v ν h1 h2; omega
  | succ k ih =>
    intro v ν h1 h2 hf
    rw [L4_enough_30, if_pos (show inR (v : Int) from by omega)]
    by_cases c : 99 < (v : Int)
    · rw [if_pos c, show 100 - v = 0 by omega]
      exact ⟨ν, rfl, hf⟩
    · have ec := hf (10 + 2 + p) (by omega)
      have hq' : okP (ν (10 + 2 + p)) := by rw [ec]; exact hq
      rw [if_neg c, M4_thought_eq N hp hq' (has := (v : Int)) (by omega) n (by omega) (by omega), Option.bind_some]
      dsimp only
      have e7 : putC ν 43 (dysC n (trialQ ν (10 + 2 + p) (v : Int))) 43 7 = shoN n (fu (μ (10 + 2 + p)) 2 (v : Int)) := by
        rw [putC_s, dysC_7 (q' := fu (μ (10 + 2 + p)) 2 (v : Int)) (fun k hk => ?_)]
        · show 0 + _ = _
          omega
        · unfold trialQ fu
          rw [ec]
          by_cases h2 : k = 2
          · rw [if_pos h2, if_pos h2]
          · rw [if_neg h2, if_neg h2, if_pos hk]
      have hs := shoN_mono (fu (μ (10 + 2 + p)) 2 (v : Int)) n 0
      have hf' : ∀ a, a ≠ 43 → putC ν 43 (dysC n (trialQ ν (10 + 2 + p) (v : Int))) a = μ a := fun a h => (putC_row h).trans (hf a h)
      rw [if_pos (by decide)]
      simp only [e7]
      rw [if_pos (show inR (shoN n (fu (μ (10 + 2 + p)) 2 (v : Int))) from by omega), show 100 - v = (100 - (v + 1)) + 1 by omega, enZ]
      by_cases d : shoN n (fu (μ (10 + 2 + p)) 2 (v : Int)) = 0
      · rw [if_pos d, if_pos d]
        exact ⟨_, rfl, hf'⟩
      · rw [if_neg d, if_neg d]
        exact ih (v + 1) _ (by omega) (by omega) hf'
theorem enough5 (N : Nat) {μ : mm} {p : Nat} (hp : (p : Int) < μ 1 0) (ok : okR μ 1) (hd : μ 1 1 ≤ 999) (q : Nat → Int) (h6 : at6 μ 1 p q) (n : Nat) (hn : n ≤ 100) (hN : 200 ≤ N) : ∀ (k v : Nat) (ν : mm), v ≤ 100 → 100 < v + k → (∀ a, a ≠ 2 → a ≠ 4 → ν a = μ a) → ∃ ν', L5_enough_33 N k (p : Int) (n : Int) (v : Int) ν = some (enZ (fun v => shoN n (fu q 2 (v : Int))) (100 - v) v, ν') ∧ ∀ a, a ≠ 2 → a ≠ 4 → ν' a = μ a := by
  have hm := ok.1
  have hp8 : p < 8 := by omega
  have hq : okP q := okR_at ok hp h6
  intro k
  induction k with
  | zero => intro v ν h1 h2; omega
  | succ k ih =>
    intro v ν h1 h2 hf
    rw [L5_enough_33, if_pos (show inR (v : Int) from by omega)]
    by_cases c : 100 ≤ (v : Int)
    · rw [if_pos c, show 100 - v = 0 by omega]
      exact ⟨ν, rfl, hf⟩
    · have e1 := hf 1 (by decide) (by decide)
      have ok2 : okR (cp 1 2 ν) 2 := cp_ok (okR_congr ok e1)
      have hq' : okP (fu q 2 (v : Int)) := ⟨hq.1, hq.2.1, by show 0 ≤ (v : Int) ∧ (v : Int) ≤ 99; omega, hq.2.2.2.1, hq.2.2.2.2.1, hq.2.2.2.2.2⟩
      have h62 : at6 (cp 1 2 ν) 2 p q := cp_at hp8 (by intro k hk; rw [e1]; exact h6 k hk)
      have ep : mu (cp 1 2 ν) 2 (4 + 6 * p + 2) (v : Int) = putP (cp 1 2 ν) 2 p (fu q 2 (v : Int)) := by
        rw [← putP_mu (by decide), putP_of h62]
      have e20 : cp 1 2 ν 2 0 = μ 1 0 := by rw [cp_to (by decide), e1]
      have e21 : cp 1 2 ν 2 1 = μ 1 1 := by rw [cp_to (by decide), e1]
      have okp : okR (putP (cp 1 2 ν) 2 p (fu q 2 (v : Int))) 2 := by
        obtain ⟨o1, o2, o3, o4, o5⟩ := ok2
        refine ⟨by rw [putP_lo (by decide)]; exact o1, by rw [putP_lo (by decide)]; exact o2, by rw [putP_lo (by decide)]; exact o3, by rw [putP_lo (by decide)]; exact o4, fun p' hp' => ?_⟩
        rw [putP_lo (by decide)] at hp'
        by_cases t : p' = p
        · subst t
          exact okP_congr hq' (fun k hk => putP_at k hk)
        · exact okP_congr (o5 p' hp') (fun k hk => putP_ne (pq_at (cp 1 2 ν) 2 p') t k hk)
      rw [if_neg c, M5_copies_eq N 1 2 (by omega) (by decide), Option.bind_some, if_pos (ixg hp8 (by decide)), ix2]
      simp only [bnd]
      rw [ep]
      obtain ⟨ν', e, f⟩ := isShortWithin_loop N p n (by omega) hp8 hn (fu q 2 (v : Int)) hq' N 0 (putP (cp 1 2 ν) 2 p (fu q 2 (v : Int))) (by omega) (by omega) rfl okp (by rw [putP_lo (by decide), e20]; exact hp) (by rw [putP_lo (by decide), e21]; omega) putP_at
      have fr : ∀ a, a ≠ 2 → a ≠ 4 → ν' a = μ a := by
        intro a h2 h4
        rw [f a h2 h4, show putP (cp 1 2 ν) 2 p (fu q 2 (v : Int)) a = cp 1 2 ν a from funext fun b => putP_c h2, cp_row h2, hf a h2 h4]
      unfold M5_isShortWithin
      rw [show ((0 : Nat) : Int) = 0 from rfl] at e
      rw [e, Option.bind_some]
      dsimp only
      rw [show 100 - v = (100 - (v + 1)) + 1 by omega, enZ]
      by_cases d : shoN n (fu q 2 (v : Int)) = 0
      · rw [if_pos d, if_pos d, if_pos (by decide), if_pos rfl]
        exact ⟨ν', rfl, fr⟩
      · rw [if_neg d, if_neg d, if_pos (by decide), if_neg (by decide)]
        exact ih (v + 1) ν' (by omega) (by omega) fr
theorem dayI_congr {q q' : Nat → Int} (h : ∀ k, k < 6 → q k = q' k) : ∀ n k, k < 6 → dayI n q k = dayI n q' k := by
  intro n
  induction n with
  | zero => exact h
  | succ n ih => exact dayP_congr ih
theorem op_enough (N : Nat) (hN : 200 ≤ N) {μ : mm} (R : Rel μ) {p n : Int} (hp : inR p) (hn : inR n) : Op (M4_enough N p n) (M5_enough N p n) μ := by
  obtain ⟨⟨a1, a2, a3⟩, -⟩ := id R
  have hm := a2.1
  have hu := unkZ_in μ p
  have ho := outZ_in n 1 60
  have g19 : ∀ (ν : mm) (c : Int), -6 ≤ c ∧ c ≤ -1 → J5_enough_19 N p n c ν = M5_no N c ν := by
    intro ν c hc
    simp only [J5_enough_19]
    rw [if_pos (show inR c from by omega), if_neg (show ¬ c = 0 by omega), rf5 N (by omega)]
  by_cases k : unkZ μ p = 0
  · have kk := unkZ_0 k
    obtain ⟨i, rfl⟩ := Int.eq_ofNat_of_zero_le kk.1
    have hi : i < 8 := by omega
    have h6 := a1.2.2.2.2 i kk.2
    have hq := offP a1 a2 kk.2
    by_cases o : outZ n 1 60 = 0
    · have oo := outZ_0 o
      obtain ⟨j, rfl⟩ := Int.eq_ofNat_of_zero_le (show 0 ≤ n by omega)
      obtain ⟨μ1, e1, f1⟩ := enough4 N hi hq j (by omega) hN N 0 μ (by omega) (by omega) (fun _ _ => rfl)
      have r1 := f1 1 (by decide)
      have ok1 : okR μ1 1 := okR_congr a2 r1
      obtain ⟨μ2, e2, f2⟩ := enough5 N (μ := μ1) (p := i) (by rw [r1]; exact kk.2) ok1 (by rw [r1]; exact a3) (μ (10 + 2 + i)) (by intro k hk; rw [r1]; exact h6 k hk) j (by omega) hN N 0 μ1 (by omega) (by omega) (fun _ _ _ => rfl)
      rw [show ((0 : Nat) : Int) = 0 from rfl] at e1 e2
      refine ⟨enZ (fun v => shoN j (fu (μ (10 + 2 + i)) 2 (v : Int))) (100 - 0) 0, μ1, μ2, ?_, ?_, Rel_m R (fun a h43 h2 h4 => (f2 a h2 h4).trans (f1 a h43))⟩
      · simp only [M4_enough]
        rw [M4_unknown_eq N hp a1 a2, Option.bind_some, M4_outside_eq N hn (by decide) (by decide), Option.bind_some, M4_firstOf_eq N hu ho, Option.bind_some, fst0 k o, if_pos (by decide), if_pos rfl]
        exact e1
      · simp only [M5_enough]
        rw [M5_isOne_eq N hp ok1, Option.bind_some, r1, if_pos kk, if_pos (by decide), if_neg (by decide), M5_wrongBy_eq N hn (by decide) (by decide), Option.bind_some, o]
        simp only [J5_enough_19]
        rw [if_pos (by decide), if_pos trivial]
        exact e2
    · refine Op_ref N R (c := outZ n 1 60) (by omega) ?_ (fun ν hν => ?_)
      · simp only [M4_enough]
        rw [M4_unknown_eq N hp a1 a2, Option.bind_some, M4_outside_eq N hn (by decide) (by decide), Option.bind_some, M4_firstOf_eq N hu ho, Option.bind_some, fst2 k o, if_pos (show inR (outZ n 1 60) from by omega), if_neg o, rf4 N ho]
      · have r1 : ν 1 = μ 1 := by rw [hν]; exact r4_c (by decide)
        simp only [M5_enough]
        rw [M5_isOne_eq N hp (okR_congr a2 r1), Option.bind_some, r1, if_pos kk, if_pos (by decide), if_neg (by decide), M5_wrongBy_eq N hn (by decide) (by decide), Option.bind_some, g19 ν _ (by omega)]
  · obtain ⟨k1, k2⟩ := unkZ_no k
    refine Op_ref N R (c := -1) (by decide) ?_ (fun ν hν => ?_)
    · simp only [M4_enough]
      rw [M4_unknown_eq N hp a1 a2, Option.bind_some, M4_outside_eq N hn (by decide) (by decide), Option.bind_some, M4_firstOf_eq N hu ho, Option.bind_some, fst1 k, k1, if_pos (by decide), if_neg (by decide), rf4 N (by decide)]
    · have r1 : ν 1 = μ 1 := by rw [hν]; exact r4_c (by decide)
      simp only [M5_enough]
      rw [M5_isOne_eq N hp (okR_congr a2 r1), Option.bind_some, r1, if_neg k2, if_pos (by decide), if_pos rfl, g19 ν (-1) (by decide)]
