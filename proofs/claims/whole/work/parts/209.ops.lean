/-- a call that changes nothing -/
def OpR (f g : mm → Option Int) (μ : mm) : Prop := ∃ r : Int, f μ = some r ∧ g μ = some r
theorem kd32 {n : Nat} (h : n < 8) : kd (32 + 2 + n) = 5 := by
  have := kd_el (i := 33) (j := n) rfl h
  rwa [show 33 + 1 + n = 32 + 2 + n by omega] at this
theorem kdO {o n : Nat} (ho : o = 10 ∨ o = 21 ∨ o = 32) (h : n < 8) : kd (o + 2 + n) = 5 := by
  rcases ho with rfl | rfl | rfl
  · exact kdo (Or.inl rfl) h
  · exact kdo (Or.inr rfl) h
  · exact kd32 h
theorem M1_allThrough_loop (N : Nat) {o : Nat} (ho : o = 10 ∨ o = 21 ∨ o = 32) {μ : mm} (hm : 0 ≤ μ o 2 ∧ μ o 2 ≤ 8) : ∀ (k p : Nat), (p : Int) ≤ μ o 2 → μ o 2 < (p : Int) + k → L1_allThrough_4 N k o (sumN (fun p => μ (o + 2 + p) 4) p) (p : Int) μ = some (sumN (fun p => μ (o + 2 + p) 4) (μ o 2).toNat) := by
  intro k
  induction k with
  | zero => intro p h1 h2; omega
  | succ k ih =>
    intro p h1 h2
    rw [L1_allThrough_4, if_pos (by omega)]
    by_cases c : μ o 2 ≤ (p : Int)
    · rw [if_pos c, show p = (μ o 2).toNat by omega]
    · rw [if_neg c, M1_at_eq N o p (by omega), Option.bind_some, if_pos (kdO ho (by omega))]
      simp only [bnd]
      exact ih (p + 1) (by omega) (by omega)
theorem M1_allThrough_eq (N : Nat) {o : Nat} (ho : o = 10 ∨ o = 21 ∨ o = 32) {μ : mm} (hN : 9 ≤ N) (hm : 0 ≤ μ o 2 ∧ μ o 2 ≤ 8) : M1_allThrough N o μ = some (sumN (fun p => μ (o + 2 + p) 4) (μ o 2).toNat) := M1_allThrough_loop N ho hm N 0 (by omega) (by omega)
theorem M1_allShort_loop (N : Nat) {o : Nat} (ho : o = 10 ∨ o = 21 ∨ o = 32) {μ : mm} (hm : 0 ≤ μ o 2 ∧ μ o 2 ≤ 8) : ∀ (k p : Nat), (p : Int) ≤ μ o 2 → μ o 2 < (p : Int) + k → L1_allShort_4 N k o (sumN (fun p => μ (o + 2 + p) 5) p) (p : Int) μ = some (sumN (fun p => μ (o + 2 + p) 5) (μ o 2).toNat) := by
  intro k
  induction k with
  | zero => intro p h1 h2; omega
  | succ k ih =>
    intro p h1 h2
    rw [L1_allShort_4, if_pos (by omega)]
    by_cases c : μ o 2 ≤ (p : Int)
    · rw [if_pos c, show p = (μ o 2).toNat by omega]
    · rw [if_neg c, M1_at_eq N o p (by omega), Option.bind_some, if_pos (kdO ho (by omega))]
      simp only [bnd]
      exact ih (p + 1) (by omega) (by omega)
theorem M1_allShort_eq (N : Nat) {o : Nat} (ho : o = 10 ∨ o = 21 ∨ o = 32) {μ : mm} (hN : 9 ≤ N) (hm : 0 ≤ μ o 2 ∧ μ o 2 ≤ 8) : M1_allShort N o μ = some (sumN (fun p => μ (o + 2 + p) 5) (μ o 2).toNat) := M1_allShort_loop N ho hm N 0 (by omega) (by omega)
theorem M1_allHas_loop (N : Nat) {o : Nat} (ho : o = 10 ∨ o = 21 ∨ o = 32) {μ : mm} (hm : 0 ≤ μ o 2 ∧ μ o 2 ≤ 8) : ∀ (k p : Nat), (p : Int) ≤ μ o 2 → μ o 2 < (p : Int) + k → L1_allHas_4 N k o (sumN (fun p => μ (o + 2 + p) 2) p) (p : Int) μ = some (sumN (fun p => μ (o + 2 + p) 2) (μ o 2).toNat) := by
  intro k
  induction k with
  | zero => intro p h1 h2; omega
  | succ k ih =>
    intro p h1 h2
    rw [L1_allHas_4, if_pos (by omega)]
    by_cases c : μ o 2 ≤ (p : Int)
    · rw [if_pos c, show p = (μ o 2).toNat by omega]
    · rw [if_neg c, M1_at_eq N o p (by omega), Option.bind_some, if_pos (kdO ho (by omega))]
      simp only [bnd]
      exact ih (p + 1) (by omega) (by omega)
theorem M1_allHas_eq (N : Nat) {o : Nat} (ho : o = 10 ∨ o = 21 ∨ o = 32) {μ : mm} (hN : 9 ≤ N) (hm : 0 ≤ μ o 2 ∧ μ o 2 ≤ 8) : M1_allHas N o μ = some (sumN (fun p => μ (o + 2 + p) 2) (μ o 2).toNat) := M1_allHas_loop N ho hm N 0 (by omega) (by omega)
/-- the sums of both sides are one -/
theorem sum_one {o : Nat} {μ : mm} (R1 : relO o 1 μ) (w : Nat) (hw : w < 6) : sumN (fun p => μ (o + 2 + p) w) (μ o 2).toNat = sumN (fun p => μ 1 (4 + 6 * p + w)) (μ 1 0).toNat := by
  rw [R1.1]
  exact sumN_congr _ (fun i hi => (R1.2.2.2.2 i (by omega) w hw).symm)
theorem op_worth (N : Nat) (hN : 9 ≤ N) {μ : mm} (R : Rel μ) : OpR (M4_worth N) (M5_worth N) μ := by
  obtain ⟨⟨a1, a2, a3⟩, rest⟩ := id R
  have hm := a2.1
  have e := a1.1
  refine ⟨sumN (fun p => μ 1 (4 + 6 * p + 4)) (μ 1 0).toNat - sumN (fun p => μ 1 (4 + 6 * p + 5)) (μ 1 0).toNat, ?_, ?_⟩
  · unfold M4_worth
    rw [M1_allThrough_eq N (Or.inl rfl) hN (by rw [e]; exact hm), Option.bind_some, M1_allShort_eq N (Or.inl rfl) hN (by rw [e]; exact hm), Option.bind_some, sum_one a1 4 (by decide), sum_one a1 5 (by decide)]
  · unfold M5_worth
    have e4 := M5_allOf_eq N 1 4 (by decide) hN (μ := μ) hm
    have e5 := M5_allOf_eq N 1 5 (by decide) hN (μ := μ) hm
    rw [show ((4 : Nat) : Int) = 4 from rfl] at e4
    rw [show ((5 : Nat) : Int) = 5 from rfl] at e5
    rw [e4, Option.bind_some, e5, Option.bind_some]
def lackZ (q : Nat → Int) : Int := if q 3 = 0 then 0 else max 0 (needsZ (q 0) (q 1) - q 2)
theorem lackZ_in {q : Nat → Int} (h : okP q) : 0 ≤ lackZ q ∧ lackZ q ≤ 24 := by
  have hn := needsZ_in (k := q 0) h.2.1
  have := h.2.2.1
  unfold lackZ
  split <;> omega
theorem lackZ_congr {q q' : Nat → Int} (h : ∀ k, k < 6 → q k = q' k) : lackZ q = lackZ q' := by
  unfold lackZ
  rw [h 0 (by decide), h 1 (by decide), h 2 (by decide), h 3 (by decide)]
theorem M0_needs_eq (N : Nat) {k f : Int} (hk : 0 ≤ k ∧ k ≤ 5) (hf : 0 ≤ f ∧ f ≤ 9) (μ : mm) : M0_needs N k f μ = some (needsZ k f) := by
  simp only [M0_needs, needsZ, bnd]
  rw [if_pos (by omega), if_pos (show 0 ≤ f + 1 ∧ inR (f + 1) from by omega)]
  repeat' split
  all_goals first | rfl | omega | (congr 1; omega)
theorem M2_lacking_eq (N c : Nat) {μ : mm} (h : okP (μ c)) : M2_lacking N c μ = some (lackZ (μ c)) := by
  have hn := needsZ_in (k := μ c 0) h.2.1
  obtain ⟨h0, h1, h2, h3, -⟩ := h
  simp only [M2_lacking, M2_needed, lackZ]
  rw [M0_needs_eq N h0 h1, Option.bind_some, Option.bind_some, if_pos (show inR (μ c 3) from by omega), if_pos (show inR (needsZ (μ c 0) (μ c 1) - μ c 2) from by omega)]
  by_cases d : μ c 3 = 0
  · rw [if_pos d, if_pos d]
  · rw [if_neg d, if_neg d]
    congr 1
    split <;> omega
theorem op_lacks_loop (N : Nat) {μ : mm} (R1 : relO 10 1 μ) (ok : okR μ 1) : ∀ (k p : Nat) (x : Int), (p : Int) ≤ μ 1 0 → μ 1 0 < (p : Int) + k → ∃ r, L4_lacks_4 N k x (p : Int) μ = some r ∧ L5_lacks_4 N k x (p : Int) μ = some r := by
  have hm := ok.1
  have e := R1.1
  intro k
  induction k with
  | zero => intro p x h1 h2; omega
  | succ k ih =>
    intro p x h1 h2
    have gg : inR (p : Int) ∧ inR (μ 1 0) := by omega
    rw [L4_lacks_4, L5_lacks_4, e, if_pos gg, if_pos gg]
    by_cases c : μ 1 0 ≤ (p : Int)
    · rw [if_pos c, if_pos c]
      exact ⟨x, rfl, rfl⟩
    · have hp : p < 8 := by omega
      have hq := offP R1 ok (n := p) (by omega)
      rw [if_neg c, if_neg c, M1_at_eq N 10 p hp, Option.bind_some, if_pos (kdo (Or.inl rfl) hp), M2_lacking_eq N _ hq, Option.bind_some, M5_lacksIn_eq N 1 p μ hp (R1.2.2.2.2 p (by omega)) hq, Option.bind_some]
      simp only [bnd]
      exact ih (p + 1) _ (by omega) (by omega)
theorem op_lacks (N : Nat) (hN : 9 ≤ N) {μ : mm} (R : Rel μ) : OpR (M4_lacks N) (M5_lacks N) μ := by
  have hm := R.1.2.1.1
  exact op_lacks_loop N R.1.1 R.1.2.1 N 0 0 (by omega) (by omega)
theorem op_richest_loop (N : Nat) {μ : mm} (R1 : relO 10 1 μ) (ok : okR μ 1) : ∀ (k p : Nat) (x y : Int), (p : Int) ≤ μ 1 0 → μ 1 0 < (p : Int) + k → ((x = -9 ∧ y = -9) ∨ ∃ n : Nat, x = (n : Int) ∧ (n : Int) < μ 1 0 ∧ y = μ 1 (4 + 6 * n + 2)) → ∃ r, L4_richest_8 N k x y (p : Int) μ = some r ∧ L5_richest_5 N k x (p : Int) μ = some r := by
  have hm := ok.1
  have e := R1.1
  intro k
  induction k with
  | zero => intro p x y h1 h2; omega
  | succ k ih =>
    intro p x y h1 h2 hxy
    have gg : inR (p : Int) ∧ inR (μ 1 0) := by omega
    rw [L4_richest_8, L5_richest_5, e, if_pos gg, if_pos gg]
    by_cases c : μ 1 0 ≤ (p : Int)
    · rw [if_pos c, if_pos c]
      exact ⟨x, rfl, rfl⟩
    · have hp : p < 8 := by omega
      have hq := offP R1 ok (n := p) (by omega)
      have hq2 := hq.2.2.1
      have hf : μ 1 (4 + 6 * p + 2) = μ (10 + 2 + p) 2 := R1.2.2.2.2 p (by omega) 2 (by decide)
      have up : ∃ r, L4_richest_8 N k (p : Int) (μ (10 + 2 + p) 2) ((p : Int) + 1) μ = some r ∧ L5_richest_5 N k (p : Int) ((p : Int) + 1) μ = some r :=
        ih (p + 1) (p : Int) (μ (10 + 2 + p) 2) (by omega) (by omega) (Or.inr ⟨p, rfl, by omega, hf.symm⟩)
      rw [if_neg c, if_neg c, M1_at_eq N 10 p hp, Option.bind_some, if_pos (kdo (Or.inl rfl) hp)]
      simp only [bnd, J4_richest_43, J5_richest_44, J5_richest_42]
      rcases hxy with ⟨rfl, rfl⟩ | ⟨n, rfl, hn, rfl⟩
      · rw [if_pos (by omega), if_neg (show ¬ μ (10 + 2 + p) 2 ≤ -9 by omega), if_pos (show inR (-9) by decide), if_pos (by decide)]
        exact up
      · have hqn := (offP R1 ok (n := n) hn).2.2.1
        have hfn : μ 1 (4 + 6 * n + 2) = μ (10 + 2 + n) 2 := R1.2.2.2.2 n hn 2 (by decide)
        rw [if_pos (show inR (n : Int) from by omega), if_neg (show ¬ (n : Int) < 0 by omega), if_pos (ixg hp (by decide)), if_pos (ixg (show n < 8 by omega) (by decide)), ix2, ix2, hf, hfn]
        have g : inR (μ (10 + 2 + p) 2) ∧ inR (μ (10 + 2 + n) 2) := by omega
        rw [if_pos g, if_pos g]
        by_cases d : μ (10 + 2 + p) 2 ≤ μ (10 + 2 + n) 2
        · rw [if_pos d, if_pos d, ← hfn]
          exact ih (p + 1) (n : Int) _ (by omega) (by omega) (Or.inr ⟨n, rfl, hn, rfl⟩)
        · rw [if_neg d, if_neg d]
          exact up
theorem op_richest (N : Nat) (hN : 9 ≤ N) {μ : mm} (R : Rel μ) : OpR (M4_richest N) (M5_richest N) μ := by
  have hm := R.1.2.1.1
  exact op_richest_loop N R.1.1 R.1.2.1 N 0 (-9) (-9) (by omega) (by omega) (Or.inl ⟨rfl, rfl⟩)
