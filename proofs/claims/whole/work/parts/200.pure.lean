/-! THE PURE PART, first: what the kinds of people need, wear, wait; a person's day -/
def needsZ (k f : Int) : Int := if k = 1 then f + 5 else if k = 2 then 2 * (f + 1) else if k = 3 then (f + 1) / 2 else if k = 4 then f + 15 else if k = 5 then 1 else f + 1
def wearsZ (k f : Int) : Int := if k = 2 then needsZ k f else if k = 3 then 1 else if k = 4 then needsZ k f / 3 else if k = 5 then 0 else needsZ k f / 2
def nextZ (k : Int) : Int := if k = 1 then 1 else if k = 2 then 30 else if k = 4 then 0 else if k = 5 then 8 else 7
theorem needsZ_in {k f : Int} (hf : 0 ≤ f ∧ f ≤ 9) : 0 ≤ needsZ k f ∧ needsZ k f ≤ 24 := by
  unfold needsZ
  repeat' split
  all_goals omega
theorem wearsZ_in {k f : Int} (hf : 0 ≤ f ∧ f ≤ 9) : 0 ≤ wearsZ k f ∧ wearsZ k f ≤ 24 := by
  have h := needsZ_in (k := k) hf
  unfold wearsZ
  repeat' split
  all_goals omega
theorem nextZ_in {k : Int} : 0 ≤ nextZ k ∧ nextZ k ≤ 30 := by
  unfold nextZ
  repeat' split
  all_goals omega
theorem ix0 (p : Nat) : ((4 + (6 * (p : Int))) + 0).toNat = 4 + 6 * p + 0 := by omega
theorem ix1 (p : Nat) : ((4 + (6 * (p : Int))) + 1).toNat = 4 + 6 * p + 1 := by omega
theorem ix2 (p : Nat) : ((4 + (6 * (p : Int))) + 2).toNat = 4 + 6 * p + 2 := by omega
theorem ix3 (p : Nat) : ((4 + (6 * (p : Int))) + 3).toNat = 4 + 6 * p + 3 := by omega
theorem ix4 (p : Nat) : ((4 + (6 * (p : Int))) + 4).toNat = 4 + 6 * p + 4 := by omega
theorem ix5 (p : Nat) : ((4 + (6 * (p : Int))) + 5).toNat = 4 + 6 * p + 5 := by omega
theorem ixg {p : Nat} (hp : p < 8) {k : Int} (hk : 0 ≤ k ∧ k ≤ 5) : 0 ≤ ((4 + (6 * (p : Int))) + k) ∧ ((4 + (6 * (p : Int))) + k) < 52 := by omega
/-- row r holds the person q at place p -/
def at6 (μ : mm) (r p : Nat) (q : Nat → Int) : Prop := ∀ k, k < 6 → μ r (4 + 6 * p + k) = q k
/-- .. is made to hold -/
def putP (μ : mm) (r p : Nat) (q : Nat → Int) : mm := fun a b => if a = r ∧ 4 + 6 * p ≤ b ∧ b < 10 + 6 * p then q (b - (4 + 6 * p)) else μ a b
def fu (q : Nat → Int) (k : Nat) (v : Int) : Nat → Int := fun b => if b = k then v else q b
theorem fu_s {q : Nat → Int} {k : Nat} {v : Int} : fu q k v k = v := if_pos rfl
theorem fu_n {q : Nat → Int} {k j : Nat} {v : Int} (h : j ≠ k) : fu q k v j = q j := if_neg h
theorem putP_of {μ : mm} {r p : Nat} {q : Nat → Int} (h : at6 μ r p q) : putP μ r p q = μ := by
  funext a b
  unfold putP
  split
  · rename_i c
    obtain ⟨rfl, c1, c2⟩ := c
    rw [← h (b - (4 + 6 * p)) (by omega)]
    congr 1
    omega
  · rfl
theorem putP_at {μ : mm} {r p : Nat} {q : Nat → Int} : at6 (putP μ r p q) r p q := by
  intro k hk
  unfold putP
  rw [if_pos ⟨rfl, by omega, by omega⟩]
  congr 1
  omega
theorem putP_lo {μ : mm} {r p j : Nat} {q : Nat → Int} (h : j < 4) : putP μ r p q r j = μ r j := by
  unfold putP
  rw [if_neg (by omega)]
theorem putP_c {μ : mm} {r p a b : Nat} {q : Nat → Int} (h : a ≠ r) : putP μ r p q a b = μ a b := by
  unfold putP
  rw [if_neg (by omega)]
theorem putP_ne {μ : mm} {r p p' : Nat} {q q' : Nat → Int} (h : at6 μ r p' q') (hn : p' ≠ p) : at6 (putP μ r p q) r p' q' := by
  intro k hk
  unfold putP
  rw [if_neg (by omega)]
  exact h k hk
theorem putP_mu {μ : mm} {r p k : Nat} {q : Nat → Int} {v : Int} (hk : k < 6) : mu (putP μ r p q) r (4 + 6 * p + k) v = putP μ r p (fu q k v) := by
  funext a b
  unfold mu putP fu
  by_cases c : a = r ∧ b = 4 + 6 * p + k
  · rw [if_pos c, if_pos (by omega), if_pos (by omega)]
  · rw [if_neg c]
    by_cases d : a = r ∧ 4 + 6 * p ≤ b ∧ b < 10 + 6 * p
    · rw [if_pos d, if_pos d, if_neg (by omega)]
    · rw [if_neg d, if_neg d]
theorem putP_mlo {μ : mm} {r p j : Nat} {q : Nat → Int} {v : Int} (hj : j < 4) : mu (putP μ r p q) r j v = putP (mu μ r j v) r p q := by
  funext a b
  simp only [mu, putP]
  by_cases c : a = r ∧ b = j
  · rw [if_pos c, if_neg (by omega), if_pos c]
  · rw [if_neg c, if_neg c]
theorem putP_putP {μ : mm} {r p : Nat} {q q' : Nat → Int} : putP (putP μ r p q) r p q' = putP μ r p q' := by
  funext a b
  unfold putP
  split <;> rfl
theorem putP_congr {μ : mm} {r p : Nat} {q q' : Nat → Int} (h : ∀ k, k < 6 → q k = q' k) : putP μ r p q = putP μ r p q' := by
  funext a b
  unfold putP
  split
  · exact h _ (by omega)
  · rfl
/-- a person as he must be -/
def okP (q : Nat → Int) : Prop := (0 ≤ q 0 ∧ q 0 ≤ 5) ∧ (0 ≤ q 1 ∧ q 1 ≤ 9) ∧ (0 ≤ q 2 ∧ q 2 ≤ 99) ∧ (0 ≤ q 3 ∧ q 3 ≤ 60) ∧ (0 ≤ q 4 ∧ q 4 ≤ 999) ∧ (0 ≤ q 5 ∧ q 5 ≤ 999)
/-- how many grains are gone as his matter comes -/
def goneP (q : Nat → Int) : Int := if needsZ (q 0) (q 1) ≤ q 2 then min (wearsZ (q 0) (q 1)) (q 2) else 0
def meetP (q : Nat → Int) : Nat → Int := fun k => if k = 2 then q 2 - goneP q else if k = 3 then nextZ (q 0) else if k = 4 then (if needsZ (q 0) (q 1) ≤ q 2 then min 999 (q 4 + 1) else q 4) else if k = 5 then (if needsZ (q 0) (q 1) ≤ q 2 then q 5 else min 999 (q 5 + 1)) else q k
def dayP (q : Nat → Int) : Nat → Int := if q 3 = 0 then q else if q 3 = 1 then meetP q else fu q 3 (q 3 - 1)
def dgone (q : Nat → Int) : Int := if q 3 = 1 then goneP q else 0
theorem goneP_in {q : Nat → Int} (h : okP q) : 0 ≤ goneP q ∧ goneP q ≤ q 2 := by
  obtain ⟨h0, h1, h2, -⟩ := h
  have a := wearsZ_in (k := q 0) h1
  unfold goneP
  split <;> omega
theorem meetP_ok {q : Nat → Int} (h : okP q) : okP (meetP q) := by
  have hg := goneP_in h
  have hn := nextZ_in (k := q 0)
  obtain ⟨h0, h1, h2, h3, h4, h5⟩ := h
  refine ⟨h0, h1, ?_, ?_, ?_, ?_⟩
  · show 0 ≤ q 2 - goneP q ∧ q 2 - goneP q ≤ 99; omega
  · show 0 ≤ nextZ (q 0) ∧ nextZ (q 0) ≤ 60; omega
  · show 0 ≤ (if needsZ (q 0) (q 1) ≤ q 2 then min 999 (q 4 + 1) else q 4) ∧ (if needsZ (q 0) (q 1) ≤ q 2 then min 999 (q 4 + 1) else q 4) ≤ 999
    split <;> omega
  · show 0 ≤ (if needsZ (q 0) (q 1) ≤ q 2 then q 5 else min 999 (q 5 + 1)) ∧ (if needsZ (q 0) (q 1) ≤ q 2 then q 5 else min 999 (q 5 + 1)) ≤ 999
    split <;> omega
theorem dayP_ok {q : Nat → Int} (h : okP q) : okP (dayP q) := by
  unfold dayP
  split
  · exact h
  · split
    · exact meetP_ok h
    · obtain ⟨h0, h1, h2, h3, h4, h5⟩ := h
      exact ⟨h0, h1, h2, by show 0 ≤ q 3 - 1 ∧ q 3 - 1 ≤ 60; omega, h4, h5⟩
theorem dgone_in {q : Nat → Int} (h : okP q) : 0 ≤ dgone q ∧ dgone q ≤ 99 := by
  have a := goneP_in h
  obtain ⟨h0, h1, h2, -⟩ := h
  unfold dgone
  split <;> omega
/-! the reference's kinds and day -/
theorem M5_least_eq (N : Nat) {a b : Int} (ha : inR a) (hb : inR b) (μ : mm) : M5_least N a b μ = some (min a b) := by
  unfold M5_least
  rw [if_pos ⟨ha, hb⟩]
  split
  · rw [Int.min_eq_right (by omega)]
  · rw [Int.min_eq_left (by omega)]
theorem M5_needs_eq (N r p : Nat) (μ : mm) {q : Nat → Int} (hp : p < 8) (h6 : at6 μ r p q) (h : okP q) : M5_needs N r (p : Int) μ = some (needsZ (q 0) (q 1)) := by
  obtain ⟨h0, h1, -⟩ := h
  unfold M5_needs bnd
  simp only [ix0, ix1, h6 0 (by decide), h6 1 (by decide)]
  rw [if_pos (ixg hp (by decide)), if_pos (ixg hp (by decide)), if_pos (by omega), if_pos (show 0 ≤ q 1 + 1 ∧ inR (q 1 + 1) from by omega)]
  unfold needsZ
  repeat' split
  all_goals first | rfl | omega
theorem M5_wears_eq (N r p : Nat) (μ : mm) {q : Nat → Int} (hp : p < 8) (h6 : at6 μ r p q) (h : okP q) : M5_wears N r (p : Int) μ = some (wearsZ (q 0) (q 1)) := by
  have hn := needsZ_in (k := q 0) h.2.1
  unfold M5_wears
  rw [M5_needs_eq N r p μ hp h6 h]
  obtain ⟨h0, h1, -⟩ := h
  simp only [ix0, h6 0 (by decide), Option.bind_some]
  rw [if_pos (ixg hp (by decide)), if_pos (by omega)]
  unfold wearsZ
  rw [if_pos (show 0 ≤ needsZ (q 0) (q 1) ∧ inR (needsZ (q 0) (q 1)) from by omega), if_pos (show 0 ≤ needsZ (q 0) (q 1) ∧ inR (needsZ (q 0) (q 1)) from by omega)]
  repeat' split
  all_goals first | rfl | omega
theorem M5_nextBy_eq (N : Nat) (k : Int) (h : 0 ≤ k ∧ k ≤ 5) (μ : mm) : M5_nextBy N k μ = some (nextZ k) := by
  unfold M5_nextBy nextZ
  rw [if_pos (by omega)]
  repeat' split
  all_goals first | rfl | omega
theorem M5_lacksIn_eq (N r p : Nat) (μ : mm) {q : Nat → Int} (hp : p < 8) (h6 : at6 μ r p q) (h : okP q) : M5_lacksIn N r (p : Int) μ = some (if q 3 = 0 then 0 else max 0 (needsZ (q 0) (q 1) - q 2)) := by
  have hn := needsZ_in (k := q 0) h.2.1
  simp only [M5_lacksIn, bnd]
  rw [M5_needs_eq N r p μ hp h6 h]
  obtain ⟨h0, h1, h2, h3, -⟩ := h
  simp only [ix2, ix3, h6 2 (by decide), h6 3 (by decide), Option.bind_some]
  rw [if_pos (ixg hp (by decide)), if_pos (ixg hp (by decide)), if_pos (show inR (q 3) from by omega), if_pos (show inR (needsZ (q 0) (q 1) - q 2) from by omega)]
  by_cases c : q 3 = 0
  · rw [if_pos c, if_pos c]
  · rw [if_neg c, if_neg c]
    split
    · rw [Int.max_eq_right (by omega)]
    · rw [Int.max_eq_left (by omega)]
theorem M5_isGone_eq (N r : Nat) (v : Int) (μ : mm) (hw : 0 ≤ μ r 3 ∧ μ r 3 ≤ 9999) (hv : 0 ≤ v ∧ v ≤ 2000) : M5_isGone N r v μ = some (mu μ r 3 (min 9999 (μ r 3 + v))) := by
  unfold M5_isGone bnd
  rw [M5_least_eq N (by omega) (by omega)]
  rfl
theorem M5_meets_eq (N r p : Nat) (μ : mm) {q : Nat → Int} (hp : p < 8) (h6 : at6 μ r p q) (h : okP q) (hw : 0 ≤ μ r 3 ∧ μ r 3 ≤ 9999) : M5_meets N r (p : Int) μ = some (putP (mu μ r 3 (min 9999 (μ r 3 + goneP q))) r p (meetP q)) := by
  have hn := needsZ_in (k := q 0) h.2.1
  have hwr := wearsZ_in (k := q 0) h.2.1
  have hg := goneP_in h
  have hk := h.1
  have e0 : J5_meets_88 N r (p : Int) = fun μ => if 0 ≤ ((4 + (6 * (p : Int))) + 0) ∧ ((4 + (6 * (p : Int))) + 0) < 52 then ((M5_nextBy N (μ r (((4 + (6 * (p : Int))) + 0)).toNat) μ).bind fun (q12 : Int) => if 0 ≤ ((4 + (6 * (p : Int))) + 3) ∧ ((4 + (6 * (p : Int))) + 3) < 52 then (bnd (mu μ r (((4 + (6 * (p : Int))) + 3)).toNat q12) fun (μ14 : mm) => some μ14) else none) else none := rfl
  unfold M5_meets
  rw [if_pos (ixg hp (by decide)), M5_needs_eq N r p μ hp h6 h, Option.bind_some]
  rw [ix2, h6 2 (by decide)]
  obtain ⟨h0, h1, h2, h3, h4, h5⟩ := id h
  rw [if_pos (by omega)]
  by_cases c : q 2 < needsZ (q 0) (q 1)
  · rw [if_pos c]
    unfold J5_meets_20
    rw [if_pos (by decide), if_pos rfl]
    simp only [J5_meets_31, bnd]
    rw [ix5, if_pos (ixg hp (by decide)), h6 5 (by decide), M5_least_eq N (by omega) (by omega), Option.bind_some, if_pos (ixg hp (by decide)), if_pos (by decide), if_pos trivial]
    rw [← putP_of h6, putP_mu (by decide)]
    simp only [e0, ix0, ix3, bnd]
    rw [if_pos (ixg hp (by decide)), putP_at 0 (by decide), fu_n (by decide), M5_nextBy_eq N _ hk, Option.bind_some, if_pos (ixg hp (by decide)), putP_mu (by decide)]
    have hg0 : goneP q = 0 := if_neg (by omega)
    rw [hg0, putP_lo (by decide), Int.add_zero, Int.min_eq_right (show μ r 3 ≤ 9999 from hw.2), putP_of h6]
    rw [show mu μ r 3 (μ r 3) = μ from by funext a b; unfold mu; split <;> simp_all]
    congr 1
    apply putP_congr
    intro k hk6
    unfold meetP fu
    rw [hg0]
    repeat' split
    all_goals first | rfl | omega | (subst_vars; rfl) | (subst_vars; omega)
  · rw [if_neg c]
    unfold J5_meets_20
    rw [if_pos (by decide), if_neg (by decide)]
    simp only [J5_meets_31, bnd]
    rw [ix4, if_pos (ixg hp (by decide)), h6 4 (by decide), M5_least_eq N (by omega) (by omega), Option.bind_some, if_pos (ixg hp (by decide)), if_pos (by decide), if_neg (by decide)]
    rw [← putP_of h6, putP_mu (by decide)]
    have hok2 : okP (fu q 4 (min 999 (q 4 + 1))) := ⟨h0, h1, h2, h3, by show 0 ≤ min 999 (q 4 + 1) ∧ min 999 (q 4 + 1) ≤ 999; omega, h5⟩
    rw [M5_wears_eq N r p _ hp putP_at hok2, Option.bind_some, if_pos (ixg hp (by decide)), ix2, putP_at 2 (by decide)]
    rw [show fu q 4 (min 999 (q 4 + 1)) 0 = q 0 from rfl, show fu q 4 (min 999 (q 4 + 1)) 1 = q 1 from rfl, show fu q 4 (min 999 (q 4 + 1)) 2 = q 2 from rfl]
    rw [M5_least_eq N (by omega) (by omega), Option.bind_some, if_pos (ixg hp (by decide)), if_pos (ixg hp (by decide)), putP_mu (by decide)]
    have hg1 : goneP q = min (wearsZ (q 0) (q 1)) (q 2) := if_pos (by omega)
    rw [← hg1, M5_isGone_eq N r _ _ (by rw [putP_lo (by decide)]; exact hw) (by omega), Option.bind_some, putP_lo (by decide), putP_mlo (by decide)]
    simp only [e0, ix0, ix3, bnd]
    rw [if_pos (ixg hp (by decide)), putP_at 0 (by decide), fu_n (by decide), fu_n (by decide), M5_nextBy_eq N _ hk, Option.bind_some, if_pos (ixg hp (by decide)), putP_mu (by decide), putP_of h6]
    congr 1
    apply putP_congr
    intro k hk6
    unfold meetP fu
    repeat' split
    all_goals first | rfl | omega | (subst_vars; rfl) | (subst_vars; omega)
