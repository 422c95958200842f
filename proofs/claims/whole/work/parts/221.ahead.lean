/-! each whose matter comes has what he lacks: issueAhead -/
def relD (o r : Nat) (d : Int) (μ ν : mm) : Prop := μ o 2 = ν r 0 ∧ μ o 3 = ν r 2 + d ∧ μ o 4 = ν r 3 ∧ μ o 5 = ν r 1 ∧ ∀ p : Nat, (p : Int) < ν r 0 → at6 ν r p (μ (o + 2 + p))
def okS (μ : mm) (o : Nat) : Prop := okO μ o ∧ 0 ≤ μ o 3 ∧ μ o 3 ≤ 999
def isC (ξ : mm) (o p : Nat) (l : Int) : mm := mu (mu ξ (o + 2 + p) 2 (ξ (o + 2 + p) 2 + l)) o 3 (ξ o 3 - l)
def isR (ν : mm) (r p : Nat) (l : Int) : mm := mu (mu ν r 2 (ν r 2 - l)) r (4 + 6 * p + 2) (ν r (4 + 6 * p + 2) + l)
theorem lackZ_has {q : Nat → Int} (h : okP q) : q 2 + lackZ q ≤ 99 := by
  have hn := needsZ_in (k := q 0) h.2.1
  have := h.2.2.1
  unfold lackZ
  split <;> omega
theorem M1_issue_eq (N : Nat) {o : Nat} (ho : isO o) {ξ : mm} (ok : okS ξ o) (p : Nat) (hp : (p : Int) < ξ o 2) {l : Int} (hl : 0 ≤ l ∧ l ≤ 99) (hh : ξ (o + 2 + p) 2 + l ≤ 99) : M1_issue N o (p : Int) l ξ = if ξ o 3 < l then some (0, ξ) else some (1, isC ξ o p l) := by
  have hm := ok.1.1
  have hs := ok.2
  have hp8 : p < 8 := by omega
  have hq := (ok.1.2.2 p hp).2.2.1
  simp only [M1_issue, bnd]
  rw [M1_knows_eq N o (show inR (p : Int) by omega) hm, if_pos (show 0 ≤ (p : Int) ∧ (p : Int) < ξ o 2 by omega), Option.bind_some, if_pos (by decide), if_neg (by decide), if_pos (show inR l ∧ inR (ξ o 3) by omega)]
  by_cases c : ξ o 3 < l
  · rw [if_pos c, if_pos c]
  · rw [if_neg c, if_neg c, M1_at_eq N o p hp8, Option.bind_some, if_pos (kdO ho hp8), if_pos (show inR (ξ (o + 2 + p) 2 + l) by omega), if_pos hh, Option.bind_some, if_pos (kdO ho hp8), mu_c (show o ≠ o + 2 + p by omega)]
    rfl
theorem isC_row {ξ : mm} {o p a : Nat} {l : Int} (h : a ≠ o) (h2 : a ≠ o + 2 + p) : isC ξ o p l a = ξ a := by
  unfold isC
  rw [mu_row h, mu_row h2]
theorem isC_p {ξ : mm} {o p : Nat} {l : Int} : isC ξ o p l (o + 2 + p) = fu (ξ (o + 2 + p)) 2 (ξ (o + 2 + p) 2 + l) := by
  funext y
  unfold isC fu
  rw [mu_c (by omega)]
  by_cases c : y = 2
  · subst c
    rw [mu_s, if_pos rfl]
  · rw [mu_j c, if_neg c]
theorem isC_o {ξ : mm} {o p y : Nat} {l : Int} (h : y ≠ 3) : isC ξ o p l o y = ξ o y := by
  unfold isC
  rw [mu_j h, mu_c (by omega)]
theorem isC_3 {ξ : mm} {o p : Nat} {l : Int} : isC ξ o p l o 3 = ξ o 3 - l := mu_s
theorem okP_has {q : Nat → Int} (h : okP q) {v : Int} (hv : 0 ≤ v ∧ v ≤ 99) : okP (fu q 2 v) := ⟨h.1, h.2.1, hv, h.2.2.2.1, h.2.2.2.2.1, h.2.2.2.2.2⟩
theorem okS_isC {ξ : mm} {o p : Nat} {l : Int} (ok : okS ξ o) (hp : (p : Int) < ξ o 2) (hl : 0 ≤ l ∧ l ≤ ξ o 3) (hh : ξ (o + 2 + p) 2 + l ≤ 99) : okS (isC ξ o p l) o := by
  obtain ⟨⟨o1, o2, o3⟩, s1, s2⟩ := ok
  have hq := o3 p hp
  have hq2 := hq.2.2.1
  refine ⟨⟨by rw [isC_o (by decide)]; exact o1, by rw [isC_o (by decide)]; exact o2, fun p' hp' => ?_⟩, by rw [isC_3]; omega, by rw [isC_3]; omega⟩
  rw [isC_o (by decide)] at hp'
  by_cases c : p' = p
  · subst c
    rw [isC_p]
    exact okP_has hq (by omega)
  · rw [isC_row (by omega) (by omega)]
    exact o3 p' hp'
theorem isR_at {ν : mm} {r p p' : Nat} {l : Int} {q : Nat → Int} (h6 : at6 ν r p' q) : at6 (isR ν r p l) r p' (if p' = p then fu q 2 (q 2 + l) else q) := by
  intro k hk
  unfold isR
  by_cases c : p' = p
  · subst c
    rw [if_pos rfl]
    unfold fu
    by_cases k2 : k = 2
    · subst k2
      rw [mu_s, if_pos rfl, h6 2 (by decide)]
    · rw [mu_j (by omega), mu_j (by omega), if_neg k2]
      exact h6 k hk
  · rw [if_neg c, mu_j (by omega), mu_j (by omega)]
    exact h6 k hk
theorem isR_sc {ν : mm} {r p j : Nat} {l : Int} (hj : j < 4) (h : j ≠ 2) : isR ν r p l r j = ν r j := by
  unfold isR
  rw [mu_j (by omega), mu_j h]
theorem isR_2 {ν : mm} {r p : Nat} {l : Int} : isR ν r p l r 2 = ν r 2 - l := by
  unfold isR
  rw [mu_j (by omega), mu_s]
theorem isR_row {ν : mm} {r p a : Nat} {l : Int} (h : a ≠ r) : isR ν r p l a = ν a := by
  unfold isR
  rw [mu_row h, mu_row h]
theorem okR_isR {ν : mm} {r p : Nat} {l : Int} (ok : okR ν r) (hp : (p : Int) < ν r 0) (hl : 0 ≤ l ∧ l ≤ ν r 2) (hh : ν r (4 + 6 * p + 2) + l ≤ 99) : okR (isR ν r p l) r := by
  obtain ⟨o1, o2, o3, o4, o5⟩ := ok
  refine ⟨by rw [isR_sc (by decide) (by decide)]; exact o1, by rw [isR_sc (by decide) (by decide)]; exact o2, by rw [isR_2]; omega, by rw [isR_sc (by decide) (by decide)]; exact o4, fun p' hp' => ?_⟩
  rw [isR_sc (by decide) (by decide)] at hp'
  have hq := o5 p' hp'
  have a := isR_at (p := p) (l := l) (pq_at ν r p')
  refine okP_congr ?_ (fun k hk => a k hk)
  by_cases c : p' = p
  · subst c
    rw [if_pos rfl]
    have hq2 := hq.2.2.1
    exact okP_has hq (by show 0 ≤ ν r (4 + 6 * p' + 2) + l ∧ ν r (4 + 6 * p' + 2) + l ≤ 99; have : 0 ≤ ν r (4 + 6 * p' + 2) := hq2.1; omega)
  · rw [if_neg c]
    exact hq
theorem relD_is {o r p : Nat} {d l : Int} {ξ ν : mm} (h : relD o r d ξ ν) : relD o r d (isC ξ o p l) (isR ν r p l) := by
  obtain ⟨h1, h2, h3, h4, h5⟩ := h
  refine ⟨by rw [isC_o (by decide), isR_sc (by decide) (by decide)]; exact h1, by rw [isC_3, isR_2]; omega, by rw [isC_o (by decide), isR_sc (by decide) (by decide)]; exact h3, by rw [isC_o (by decide), isR_sc (by decide) (by decide)]; exact h4, fun p' hp' => ?_⟩
  rw [isR_sc (by decide) (by decide)] at hp'
  have a := isR_at (p := p) (l := l) (h5 p' hp')
  by_cases c : p' = p
  · subst c
    rw [if_pos rfl] at a
    rw [isC_p]
    exact a
  · rw [if_neg c] at a
    rw [isC_row (by omega) (by omega)]
    exact a
theorem ahead_loop (N : Nat) : ∀ (k p : Nat) (ξ : mm), (p : Int) ≤ ξ 21 2 → ξ 21 2 < (p : Int) + k → okS ξ 21 →
    ∃ (r : Int) (ξ' : mm), L1_issueAhead_2 N k 21 (p : Int) ξ = some (r, ξ') ∧ (r = -9 ∨ (0 ≤ r ∧ r < 8)) ∧ okS ξ' 21 ∧ ξ' 21 2 = ξ 21 2 ∧ ξ' 21 3 ≤ ξ 21 3 ∧ (∀ a, a ≠ 21 → (a < 23 ∨ 31 ≤ a) → ξ' a = ξ a) ∧
      ∀ (d : Int) (ν : mm), 0 ≤ d → relD 21 2 d ξ ν → okR ν 2 → ∃ (r' : Int) (ν' : mm), L5_refusesOne_2 N k (p : Int) ν = some (r', ν') ∧ (r' = -9 ∨ (0 ≤ r' ∧ r' < 8)) ∧ (∀ a, a ≠ 2 → ν' a = ν a) ∧ (r < 0 → d ≤ ξ' 21 3 → r' = -9 ∧ relD 21 2 d ξ' ν' ∧ okR ν' 2 ∧ ν' 2 1 = ν 2 1) ∧ (r < 0 → ξ' 21 3 < d → 0 ≤ r') ∧ (0 ≤ r → 0 ≤ r' ∧ (d = 0 → r' = r)) := by
  intro k
  induction k with
  | zero => intro p ξ h1 h2; omega
  | succ k ih =>
    intro p ξ h1 h2 ok
    have hm := ok.1.1
    by_cases c : ξ 21 2 ≤ (p : Int)
    · refine ⟨-9, ξ, ?_, Or.inl rfl, ok, rfl, Int.le_refl _, fun _ _ _ => rfl, fun d ν hd X okν => ⟨-9, ν, ?_, Or.inl rfl, fun _ _ => rfl, fun _ _ => ⟨rfl, X, okν, rfl⟩, fun _ h => ?_, fun h => by omega⟩⟩
      · rw [L1_issueAhead_2, if_pos (show inR (p : Int) ∧ inR (ξ 21 2) by omega), if_pos c]
      · have e := X.1
        rw [L5_refusesOne_2, if_pos (show inR (p : Int) ∧ inR (ν 2 0) by omega), if_pos (show ν 2 0 ≤ (p : Int) by omega)]
      · have e := X.2.1
        have := okν.2.2.1
        omega
    · have hp8 : p < 8 := by omega
      have hq := ok.1.2.2 p (by omega)
      have hl := lackZ_in hq
      have hh := lackZ_has hq
      have hq3 := hq.2.2.2.1
      have g4 : L1_issueAhead_2 N (k + 1) 21 (p : Int) ξ = if ξ (21 + 2 + p) 3 = 1 then (if ξ 21 3 < lackZ (ξ (21 + 2 + p)) then some ((p : Int), ξ) else L1_issueAhead_2 N k 21 ((p : Int) + 1) (isC ξ 21 p (lackZ (ξ (21 + 2 + p))))) else L1_issueAhead_2 N k 21 ((p : Int) + 1) ξ := by
        rw [L1_issueAhead_2, if_pos (show inR (p : Int) ∧ inR (ξ 21 2) by omega), if_neg c, M1_at_eq N 21 p hp8, Option.bind_some, if_pos (kdO (Or.inr (Or.inl rfl)) hp8), if_pos (show inR (ξ (21 + 2 + p) 3) by omega), M2_lacking_eq N _ hq, Option.bind_some, M1_issue_eq N (Or.inr (Or.inl rfl)) ok p (by omega) (by omega) hh]
        simp only [J1_issueAhead_38]
        by_cases f : ξ (21 + 2 + p) 3 = 1
        · rw [if_pos f, if_pos f]
          by_cases g : ξ 21 3 < lackZ (ξ (21 + 2 + p))
          · rw [if_pos g, if_pos g, Option.bind_some]
            rfl
          · rw [if_neg g, if_neg g, Option.bind_some]
            rfl
        · rw [if_neg f, if_neg f]
      have g5 : ∀ (d : Int) (ν : mm), relD 21 2 d ξ ν → okR ν 2 → L5_refusesOne_2 N (k + 1) (p : Int) ν = if ξ (21 + 2 + p) 3 = 1 then (if lackZ (ξ (21 + 2 + p)) ≤ ν 2 2 then L5_refusesOne_2 N k ((p : Int) + 1) (isR ν 2 p (lackZ (ξ (21 + 2 + p)))) else some ((p : Int), ν)) else L5_refusesOne_2 N k ((p : Int) + 1) ν := by
        intro d ν X okν
        have e := X.1
        have h6 := X.2.2.2.2 p (by omega)
        have h2 := okν.2.2.1
        have eL := M5_lacksIn_eq N 2 p ν hp8 h6 hq
        rw [L5_refusesOne_2, if_pos (show inR (p : Int) ∧ inR (ν 2 0) by omega), if_neg (show ¬ ν 2 0 ≤ (p : Int) by omega), if_pos (ixg hp8 (by decide)), ix3, h6 3 (by decide), if_pos (show inR (ξ (21 + 2 + p) 3) by omega), eL, Option.bind_some, show (if ξ (21 + 2 + p) 3 = 0 then (0 : Int) else max 0 (needsZ (ξ (21 + 2 + p) 0) (ξ (21 + 2 + p) 1) - ξ (21 + 2 + p) 2)) = lackZ (ξ (21 + 2 + p)) from rfl, if_pos (show inR (lackZ (ξ (21 + 2 + p))) ∧ inR (ν 2 2) by omega), M5_issuesIn_eq N 2 p hp8, Option.bind_some]
        rfl
      by_cases f : ξ (21 + 2 + p) 3 = 1
      · by_cases g : ξ 21 3 < lackZ (ξ (21 + 2 + p))
        · refine ⟨(p : Int), ξ, by rw [g4, if_pos f, if_pos g], Or.inr (by omega), ok, rfl, Int.le_refl _, fun _ _ _ => rfl, fun d ν hd X okν => ⟨(p : Int), ν, ?_, Or.inr (by omega), fun _ _ => rfl, fun h => by omega, fun h => by omega, fun _ => ⟨by omega, fun _ => rfl⟩⟩⟩
          have e := X.2.1
          rw [g5 d ν X okν, if_pos f, if_neg (by omega)]
        · have okI := okS_isC (p := p) ok (by omega) (show 0 ≤ lackZ (ξ (21 + 2 + p)) ∧ lackZ (ξ (21 + 2 + p)) ≤ ξ 21 3 by omega) hh
          obtain ⟨r, ξ', e, hr, ok', m', s', fr, G⟩ := ih (p + 1) (isC ξ 21 p (lackZ (ξ (21 + 2 + p)))) (by rw [isC_o (by decide)]; omega) (by rw [isC_o (by decide)]; omega) okI
          rw [isC_3] at s'
          refine ⟨r, ξ', by rw [g4, if_pos f, if_neg g]; exact e, hr, ok', by rw [m', isC_o (by decide)], by omega, fun a h1 h2 => (fr a h1 h2).trans (isC_row h1 (by omega)), fun d ν hd X okν => ?_⟩
          have e2 := X.2.1
          have h6 := X.2.2.2.2 p (by have := X.1; omega)
          by_cases t : lackZ (ξ (21 + 2 + p)) ≤ ν 2 2
          · obtain ⟨r', ν', e', hr', fr', A, B, C⟩ := G d (isR ν 2 p (lackZ (ξ (21 + 2 + p)))) hd (relD_is X) (okR_isR okν (by have := X.1; omega) (by omega) (by rw [h6 2 (by decide)]; exact hh))
            refine ⟨r', ν', by rw [g5 d ν X okν, if_pos f, if_pos t]; exact e', hr', fun a h => (fr' a h).trans (isR_row h), fun h1 h2 => ?_, B, C⟩
            obtain ⟨x1, x2, x3, x4⟩ := A h1 h2
            exact ⟨x1, x2, x3, by rw [x4, isR_sc (by decide) (by decide)]⟩
          · refine ⟨(p : Int), ν, by rw [g5 d ν X okν, if_pos f, if_neg t], Or.inr (by omega), fun _ _ => rfl, fun h1 h2 => by omega, fun _ _ => by omega, fun h => ⟨by omega, fun h0 => by omega⟩⟩
      · obtain ⟨r, ξ', e, hr, ok', m', s', fr, G⟩ := ih (p + 1) ξ (by omega) (by omega) ok
        refine ⟨r, ξ', by rw [g4, if_neg f]; exact e, hr, ok', m', s', fr, fun d ν hd X okν => ?_⟩
        obtain ⟨r', ν', e', rest⟩ := G d ν hd X okν
        exact ⟨r', ν', by rw [g5 d ν X okν, if_neg f]; exact e', rest⟩
