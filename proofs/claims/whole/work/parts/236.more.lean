/-! THROUGH more and SHORT more: of one alone in thought (the class), of all in mind (the reference) -/
def thn (n : Nat) (q : Nat → Int) (h : Int) : Int := dayI n (fu q 2 h) 4 - q 4
def shn (n : Nat) (q : Nat → Int) (h : Int) : Int := dayI n (fu q 2 h) 5 - q 5
theorem fu_self (q : Nat → Int) : fu q 2 (q 2) = q := by
  funext k
  unfold fu
  by_cases c : k = 2
  · rw [if_pos c, c]
  · rw [if_neg c]
theorem dayP_up {q : Nat → Int} (h : okP q) : q 4 ≤ dayP q 4 ∧ q 5 ≤ dayP q 5 := by
  have h4 := h.2.2.2.2.1
  have h5 := h.2.2.2.2.2
  unfold dayP
  by_cases a : q 3 = 0
  · rw [if_pos a]
    omega
  · rw [if_neg a]
    by_cases b : q 3 = 1
    · rw [if_pos b]
      show q 4 ≤ (if needsZ (q 0) (q 1) ≤ q 2 then min 999 (q 4 + 1) else q 4) ∧ q 5 ≤ (if needsZ (q 0) (q 1) ≤ q 2 then q 5 else min 999 (q 5 + 1))
      by_cases c : needsZ (q 0) (q 1) ≤ q 2
      · rw [if_pos c, if_pos c]
        omega
      · rw [if_neg c, if_neg c]
        omega
    · rw [if_neg b, fu_n (by decide), fu_n (by decide)]
      omega
theorem dayI_up {q : Nat → Int} (h : okP q) : ∀ n, q 4 ≤ dayI n q 4 ∧ q 5 ≤ dayI n q 5 := by
  intro n
  induction n with
  | zero => exact ⟨Int.le_refl _, Int.le_refl _⟩
  | succ n ih =>
    have := dayP_up (dayI_ok h n)
    show q 4 ≤ dayP (dayI n q) 4 ∧ q 5 ≤ dayP (dayI n q) 5
    omega
theorem thn_in {q : Nat → Int} (h : okP q) {v : Int} (hv : 0 ≤ v ∧ v ≤ 99) (n : Nat) : 0 ≤ thn n q v ∧ thn n q v ≤ 999 := by
  have a := dayI_up (okP_has h hv) n
  have b := (dayI_ok (okP_has h hv) n).2.2.2.2.1
  have c := h.2.2.2.2.1
  have d : fu q 2 v 4 = q 4 := fu_n (by decide)
  unfold thn
  omega
theorem shn_in {q : Nat → Int} (h : okP q) {v : Int} (hv : 0 ≤ v ∧ v ≤ 99) (n : Nat) : 0 ≤ shn n q v ∧ shn n q v ≤ 999 := by
  have a := dayI_up (okP_has h hv) n
  have b := (dayI_ok (okP_has h hv) n).2.2.2.2.2
  have c := h.2.2.2.2.2
  have d : fu q 2 v 5 = q 5 := fu_n (by decide)
  unfold shn
  omega
theorem trialQ_fu {μ ν : mm} {c : Nat} {has : Int} (he : ν c = μ c) : ∀ k, k < 6 → trialQ ν c has k = fu (μ c) 2 has k := by
  intro k hk
  unfold trialQ fu
  rw [he]
  by_cases h2 : k = 2
  · rw [if_pos h2, if_pos h2]
  · rw [if_neg h2, if_neg h2, if_pos hk]
theorem throughMore_eq (N : Nat) {μ ν : mm} {p : Nat} (hp : p < 8) (he : ν (10 + 2 + p) = μ (10 + 2 + p)) (h : okP (μ (10 + 2 + p))) {has : Int} (hh : 0 ≤ has ∧ has ≤ 99) (n : Nat) (hn : n ≤ 100) (hN : 200 ≤ N) : ∃ T : Nat → Int, M4_throughMore N (p : Int) has (n : Int) ν = some (thn n (μ (10 + 2 + p)) has, putC ν 43 T) := by
  have h' : okP (ν (10 + 2 + p)) := by rw [he]; exact h
  refine ⟨dysC n (trialQ ν (10 + 2 + p) has), ?_⟩
  have e := dysC_p (trialQ_fu (has := has) he) n 4 (by decide)
  unfold M4_throughMore
  rw [M4_thought_eq N hp h' hh n (by omega) (by omega), Option.bind_some]
  dsimp only
  rw [if_pos (by decide), M1_at_eq N 10 p hp, Option.bind_some, if_pos (kdo (Or.inl rfl) hp), putC_s, putC_row (show 10 + 2 + p ≠ 43 by omega), e, he]
  rfl
theorem shortMore_eq (N : Nat) {μ ν : mm} {p : Nat} (hp : p < 8) (he : ν (10 + 2 + p) = μ (10 + 2 + p)) (h : okP (μ (10 + 2 + p))) {has : Int} (hh : 0 ≤ has ∧ has ≤ 99) (n : Nat) (hn : n ≤ 100) (hN : 200 ≤ N) : ∃ T : Nat → Int, M4_shortMore N (p : Int) has (n : Int) ν = some (shn n (μ (10 + 2 + p)) has, putC ν 43 T) := by
  have h' : okP (ν (10 + 2 + p)) := by rw [he]; exact h
  refine ⟨dysC n (trialQ ν (10 + 2 + p) has), ?_⟩
  have e := dysC_p (trialQ_fu (has := has) he) n 5 (by decide)
  unfold M4_shortMore
  rw [M4_thought_eq N hp h' hh n (by omega) (by omega), Option.bind_some]
  dsimp only
  rw [if_pos (by decide), M1_at_eq N 10 p hp, Option.bind_some, if_pos (kdo (Or.inl rfl) hp), putC_s, putC_row (show 10 + 2 + p ≠ 43 by omega), e, he]
  rfl
/-! sums -/
theorem sumN_sub (f g : Nat → Int) : ∀ m, sumN f m - sumN g m = sumN (fun j => f j - g j) m := by
  intro m
  induction m with
  | zero => rfl
  | succ m ih =>
    show sumN f m + f m - (sumN g m + g m) = sumN (fun j => f j - g j) m + (f m - g m)
    rw [← ih]
    omega
theorem sumN_999 {f : Nat → Int} : ∀ m : Nat, (∀ i, i < m → 0 ≤ f i ∧ f i ≤ 999) → 0 ≤ sumN f m ∧ sumN f m ≤ 999 * (m : Int) := by
  intro m
  induction m with
  | zero => intro _; exact ⟨Int.le_refl _, Int.le_refl _⟩
  | succ m ih =>
    intro h
    have a := ih (fun i hi => h i (by omega))
    have b := h m (by omega)
    show 0 ≤ sumN f m + f m ∧ sumN f m + f m ≤ 999 * ((m + 1 : Nat) : Int)
    omega
theorem sumN_upd {f g : Nat → Int} {p : Nat} (h : ∀ j, j ≠ p → f j = g j) : ∀ m, p < m → sumN f m = sumN g m + (f p - g p) := by
  intro m
  induction m with
  | zero => intro h; omega
  | succ m ih =>
    intro hp
    show sumN f m + f m = sumN g m + g m + (f p - g p)
    by_cases c : p = m
    · subst c
      have e : sumN f p = sumN g p := sumN_congr p (fun i hi => h i (by omega))
      omega
    · have a := ih (by omega)
      have b := h m (fun z => c z.symm)
      omega
/-! the reference: its row of what is in mind, as copied from the row of now -/
theorem cpS {μ ν : mm} (R1 : relO 10 1 μ) (ok : okR μ 1) (e : ν 1 = μ 1) : okR (cp 1 2 ν) 2 ∧ cp 1 2 ν 2 0 = μ 1 0 ∧ cp 1 2 ν 2 1 = μ 1 1 ∧ cp 1 2 ν 2 2 = μ 1 2 ∧ cp 1 2 ν 1 = μ 1 ∧ ∀ j : Nat, (j : Int) < μ 1 0 → at6 (cp 1 2 ν) 2 j (μ (10 + 2 + j)) := by
  have hm := ok.1
  refine ⟨cp_ok (okR_congr ok e), by rw [cp_to (by decide), e], by rw [cp_to (by decide), e], by rw [cp_to (by decide), e], by rw [cp_row (by decide), e], fun j hj => cp_at (by omega) ?_⟩
  intro k hk
  rw [e]
  exact R1.2.2.2.2 j hj k hk
theorem thrB (N : Nat) {ν : mm} (hN : 200 ≤ N) (m : Nat) (hm : m ≤ 8) (m1 : ν 1 0 = (m : Int)) (ok2 : okR ν 2) (m2 : ν 2 0 = (m : Int)) (hd : ν 2 1 ≤ 2000) (n : Nat) (hn : n ≤ 100) {Q Q' : Nat → Nat → Int} (h1 : ∀ j, j < m → at6 ν 1 j (Q j)) (h2 : ∀ j, j < m → at6 ν 2 j (Q' j)) : M5_throughBehind N (n : Int) ν = some (sumN (fun j => dayI n (Q' j) 4 - Q j 4) m, days 2 n ν) := by
  have okd := days_ok ok2 n (by omega)
  have r0 : days 2 n ν 1 0 = (m : Int) := by rw [days_c (by decide), m1]
  have e2 := M5_allOf_eq N 2 4 (by decide) (by omega) (μ := days 2 n ν) okd.1
  have e1 := M5_allOf_eq N 1 4 (by decide) (by omega) (μ := days 2 n ν) (by omega)
  rw [show ((4 : Nat) : Int) = 4 from rfl] at e1 e2
  have s2 : sumN (fun p => days 2 n ν 2 (4 + 6 * p + 4)) (days 2 n ν 2 0).toNat = sumN (fun j => dayI n (Q' j) 4) m := by
    rw [days_many, m2, Int.toNat_natCast]
    exact sumN_congr _ (fun i hi => days_at (by omega) (h2 i hi) n 4 (by decide))
  have s1 : sumN (fun p => days 2 n ν 1 (4 + 6 * p + 4)) (days 2 n ν 1 0).toNat = sumN (fun j => Q j 4) m := by
    rw [r0, Int.toNat_natCast]
    exact sumN_congr _ (fun i hi => (days_c (by decide) n).trans (h1 i hi 4 (by decide)))
  unfold M5_throughBehind
  rw [M5_daysOn_eq N 2 (by omega) ok2 n (by omega) (by omega), Option.bind_some, e2, Option.bind_some, e1, Option.bind_some, s2, s1, sumN_sub]
theorem M5_throughOf_eq (N : Nat) {ν : mm} {p : Nat} (hp : p < 8) {q' q : Nat → Int} (h2 : at6 ν 2 p q') (h1 : at6 ν 1 p q) : M5_throughOf N 2 (p : Int) ν = some (q' 4 - q 4) := by
  unfold M5_throughOf
  rw [if_pos (ixg hp (by decide)), if_pos (ixg hp (by decide)), ix4, h2 4 (by decide), h1 4 (by decide)]
theorem putP_all {ν : mm} {m p : Nat} {q' : Nat → Int} {Q : Nat → Nat → Int} (h2 : ∀ j, j < m → at6 ν 2 j (Q j)) : ∀ j, j < m → at6 (putP ν 2 p q') 2 j (if j = p then q' else Q j) := by
  intro j hj
  by_cases c : j = p
  · subst c
    rw [if_pos rfl]
    exact putP_at
  · rw [if_neg c]
    exact putP_ne (h2 j hj) c
theorem set2 {ν : mm} {p : Nat} {q : Nat → Int} (h6 : at6 ν 2 p q) (v : Int) : mu ν 2 (4 + 6 * p + 2) v = putP ν 2 p (fu q 2 v) := by
  rw [← putP_mu (by decide), putP_of h6]
