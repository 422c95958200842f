/-! weigh: the class's two rows of eight; signs: the reference's issuing in mind -/
def wgB (n : Nat) (Q : Nat → Nat → Int) (p : Nat) : Int := thn n (Q p) (Q p 2)
def wgG (n : Nat) (Q : Nat → Nat → Int) (p : Nat) : Int := thn n (Q p) (Q p 2 + lackZ (Q p))
theorem wg_in (n : Nat) {Q : Nat → Nat → Int} {p : Nat} (h : okP (Q p)) : (0 ≤ wgB n Q p ∧ wgB n Q p ≤ 999) ∧ (0 ≤ wgG n Q p ∧ wgG n Q p ≤ 999) := by
  have h2 := h.2.2.1
  have hl := lackZ_in h
  have hh := lackZ_has h
  exact ⟨thn_in h h2 n, thn_in h (by omega) n⟩
theorem lackZ_0 (q : Nat → Int) : 0 ≤ lackZ q := by
  unfold lackZ
  split <;> omega
theorem weigh4 (N : Nat) (hN : 200 ≤ N) {μ : mm} (a1 : relO 10 1 μ) (a2 : okR μ 1) (n : Nat) (hn : n ≤ 100) (m : Nat) (hm : (m : Int) = μ 1 0) : ∀ (k p : Nat) (ν : mm), p ≤ m → m < p + k → (∀ a, a ≠ 43 → a ≠ 48 → a ≠ 49 → ν a = μ a) → (∀ j, j < p → ν 48 j = wgB n (fun i => μ (10 + 2 + i)) j ∧ ν 49 j = wgG n (fun i => μ (10 + 2 + i)) j) →
    ∃ ν', L4_weigh_2 N k (n : Int) (p : Int) ν = some ν' ∧ (∀ a, a ≠ 43 → a ≠ 48 → a ≠ 49 → ν' a = μ a) ∧ ∀ j, j < m → ν' 48 j = wgB n (fun i => μ (10 + 2 + i)) j ∧ ν' 49 j = wgG n (fun i => μ (10 + 2 + i)) j := by
  have h8 := a2.1
  intro k
  induction k with
  | zero => intro p ν h1 h2; omega
  | succ k ih =>
    intro p ν h1 h2 hf hw
    have e10 : ν 10 2 = (m : Int) := by rw [hf 10 (by decide) (by decide) (by decide), a1.1, hm]
    rw [L4_weigh_2, e10, if_pos (show inR (p : Int) ∧ inR (m : Int) by omega)]
    by_cases c : (m : Int) ≤ (p : Int)
    · rw [if_pos c]
      exact ⟨ν, rfl, hf, fun j hj => hw j (by omega)⟩
    · have hp8 : p < 8 := by omega
      have hq : okP (μ (10 + 2 + p)) := offP a1 a2 (by omega)
      have hq2 := hq.2.2.1
      have hl := lackZ_in hq
      have hh := lackZ_has hq
      have ep : ν (10 + 2 + p) = μ (10 + 2 + p) := hf _ (by omega) (by omega) (by omega)
      obtain ⟨T, eT⟩ := throughMore_eq N hp8 ep hq (has := μ (10 + 2 + p) 2) hq2 n hn hN
      have ep2 : mu (putC ν 43 T) 48 p (wgB n (fun i => μ (10 + 2 + i)) p) (10 + 2 + p) = μ (10 + 2 + p) := by rw [mu_row (by omega), putC_row (by omega), ep]
      obtain ⟨T', eT'⟩ := throughMore_eq N hp8 ep2 hq (has := μ (10 + 2 + p) 2 + lackZ (μ (10 + 2 + p))) (by omega) n hn hN
      rw [if_neg c, if_pos (show inR (p : Int) by omega), if_neg (show ¬ 8 ≤ (p : Int) by omega), M1_at_eq N 10 p hp8, Option.bind_some, if_pos (kdo (Or.inl rfl) hp8)]
      simp only [bnd]
      rw [Option.bind_some, if_pos (kdo (Or.inl rfl) hp8), M2_lacking_eq N _ (by rw [ep]; exact hq), Option.bind_some, ep, eT, Option.bind_some]
      dsimp only
      rw [if_pos (show 0 ≤ (p : Int) ∧ (p : Int) < 8 by omega), Int.toNat_natCast, show thn n (μ (10 + 2 + p)) (μ (10 + 2 + p) 2) = wgB n (fun i => μ (10 + 2 + i)) p from rfl, eT', Option.bind_some]
      dsimp only
      rw [if_pos (show 0 ≤ (p : Int) ∧ (p : Int) < 8 by omega), show thn n (μ (10 + 2 + p)) (μ (10 + 2 + p) 2 + lackZ (μ (10 + 2 + p))) = wgG n (fun i => μ (10 + 2 + i)) p from rfl]
      refine ih (p + 1) _ (by omega) (by omega) (fun a h43 h48 h49 => ?_) (fun j hj => ?_)
      · rw [mu_row h49, putC_row h43, mu_row h48, putC_row h43]
        exact hf a h43 h48 h49
      · constructor
        · rw [mu_c (by decide), putC_row (by decide)]
          by_cases e : j = p
          · subst e
            rw [mu_s]
          · rw [mu_j e, putC_row (by decide)]
            exact (hw j (by omega)).1
        · by_cases e : j = p
          · subst e
            rw [mu_s]
          · rw [mu_j e, putC_row (by decide), mu_c (by decide), putC_row (by decide)]
            exact (hw j (by omega)).2
theorem weighed0 (N : Nat) {ν : mm} {p : Nat} (hp : p < 8) : M4_weighed N (p : Int) 0 ν = some (ν 48 p) := by
  unfold M4_weighed
  rw [if_pos (show inR (p : Int) by omega), if_neg (show ¬ (p : Int) < 0 by omega), if_pos (show inR (p : Int) by omega), if_pos (show (p : Int) < 8 by omega), if_pos (by decide), if_pos rfl, if_pos (show 0 ≤ (p : Int) ∧ (p : Int) < 8 by omega), Int.toNat_natCast]
theorem weighed1 (N : Nat) {ν : mm} {p : Nat} (hp : p < 8) : M4_weighed N (p : Int) 1 ν = some (ν 49 p) := by
  unfold M4_weighed
  rw [if_pos (show inR (p : Int) by omega), if_neg (show ¬ (p : Int) < 0 by omega), if_pos (show inR (p : Int) by omega), if_pos (show (p : Int) < 8 by omega), if_pos (by decide), if_neg (by decide), if_pos (show 0 ≤ (p : Int) ∧ (p : Int) < 8 by omega), Int.toNat_natCast]
theorem signs5 (N : Nat) {ν : mm} {p : Nat} {q : Nat → Int} (hp : p < 8) (ok : okR ν 2) (h6 : at6 ν 2 p q) (hq : okP q) : M5_signs N (p : Int) ν = if lackZ q ≤ ν 2 2 then some (lackZ q, isR ν 2 p (lackZ q)) else some (0, ν) := by
  have hl := lackZ_in hq
  have hs := ok.2.2.1
  unfold M5_signs
  rw [M5_lacksIn_eq N 2 p ν hp h6 hq, Option.bind_some, show (if q 3 = 0 then (0 : Int) else max 0 (needsZ (q 0) (q 1) - q 2)) = lackZ q from rfl, if_pos (show inR (lackZ q) ∧ inR (ν 2 2) by omega), M5_issuesIn_eq N 2 p hp, Option.bind_some]
  rfl
theorem sg_ok {ν : mm} {p : Nat} {q : Nat → Int} {c : Prop} [Decidable c] (hc : c → lackZ q ≤ ν 2 2) (ok : okR ν 2) (hp : (p : Int) < ν 2 0) (h6 : at6 ν 2 p q) (hq : okP q) :
    okR (if c then isR ν 2 p (lackZ q) else ν) 2 ∧ (if c then isR ν 2 p (lackZ q) else ν) 2 0 = ν 2 0 ∧ (if c then isR ν 2 p (lackZ q) else ν) 2 1 = ν 2 1 ∧ (if c then isR ν 2 p (lackZ q) else ν) 2 2 = (if c then ν 2 2 - lackZ q else ν 2 2) ∧ (∀ a, a ≠ 2 → (if c then isR ν 2 p (lackZ q) else ν) a = ν a) ∧
    at6 (if c then isR ν 2 p (lackZ q) else ν) 2 p (if c then fu q 2 (q 2 + lackZ q) else q) ∧ ∀ (p' : Nat) (q' : Nat → Int), p' ≠ p → at6 ν 2 p' q' → at6 (if c then isR ν 2 p (lackZ q) else ν) 2 p' q' := by
  have hl := lackZ_in hq
  have hh := lackZ_has hq
  by_cases d : c
  · have h := hc d
    simp only [if_pos d]
    refine ⟨okR_isR ok hp (by omega) (by rw [h6 2 (by decide)]; exact hh), isR_sc (by decide) (by decide), isR_sc (by decide) (by decide), isR_2, fun a ha => isR_row ha, ?_, fun p' q' hne h' => ?_⟩
    · have := isR_at (p := p) (l := lackZ q) h6
      rw [if_pos rfl] at this
      exact this
    · have := isR_at (p := p) (l := lackZ q) h'
      rw [if_neg hne] at this
      exact this
  · simp only [if_neg d]
    refine ⟨ok, ?_, ?_, ?_, ?_, h6, fun _ _ _ h' => h'⟩ <;> first | trivial | (intros; trivial)
/-- all but scratch as in μ -/
def frB (μ ν : mm) : Prop := ∀ a, a ≠ 2 → a ≠ 43 → a ≠ 48 → a ≠ 49 → ν a = μ a
theorem Rel_frB {μ ν : mm} (R : Rel μ) (h : frB μ ν) : Rel ν := by
  refine Rel_scr R (fun a ha h0 => ?_) (fun i _ _ => by rw [h 0 (by decide) (by decide) (by decide) (by decide)])
  have := scr_ne ha
  exact h a (by omega) (by omega) (by omega) (by omega)
