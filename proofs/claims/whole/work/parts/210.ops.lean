theorem op_next_loop (N : Nat) {μ : mm} (R1 : relO 10 1 μ) (ok : okR μ 1) (w : Int) (hw : 0 ≤ w ∧ w ≤ 1) : ∀ (k p : Nat) (x y : Int), (p : Int) ≤ μ 1 0 → μ 1 0 < (p : Int) + k → ((x = -9 ∧ y = -9) ∨ ∃ n : Nat, x = (n : Int) ∧ (n : Int) < μ 1 0 ∧ y = μ 1 (4 + 6 * n + 3)) → ∃ r, L4_next_26 N k w x y (p : Int) μ = some (r, μ) ∧ L5_next_21 N k w x (p : Int) μ = some (r, μ) := by
  have hm := ok.1
  have e := R1.1
  intro k
  induction k with
  | zero => intro p x y h1 h2; omega
  | succ k ih =>
    intro p x y h1 h2 hxy
    have gg : inR (p : Int) ∧ inR (μ 1 0) := by omega
    rw [L4_next_26, L5_next_21, e, if_pos gg, if_pos gg]
    by_cases c : μ 1 0 ≤ (p : Int)
    · rw [if_pos c, if_pos c]
      have gw : inR w := by omega
      rcases hxy with ⟨rfl, rfl⟩ | ⟨n, rfl, hn, rfl⟩
      · refine ⟨-9, ?_, ?_⟩
        · rw [if_pos gw]
          split <;> rfl
        · rw [if_pos (show inR (-9) by decide), if_pos (by decide)]
      · have gn : inR (n : Int) := by omega
        by_cases d : w = 0
        · exact ⟨(n : Int), by rw [if_pos gw, if_pos d], by rw [if_pos gn, if_neg (by omega), if_pos gw, if_pos d]⟩
        · exact ⟨μ 1 (4 + 6 * n + 3), by rw [if_pos gw, if_neg d], by rw [if_pos gn, if_neg (by omega), if_pos gw, if_neg d, if_pos (ixg (show n < 8 by omega) (by decide)), ix3]⟩
    · have hp : p < 8 := by omega
      have hq := offP R1 ok (n := p) (by omega)
      have hq3 := hq.2.2.2.1
      have hf : μ 1 (4 + 6 * p + 3) = μ (10 + 2 + p) 3 := R1.2.2.2.2 p (by omega) 3 (by decide)
      have up : ∃ r, L4_next_26 N k w (p : Int) (μ (10 + 2 + p) 3) ((p : Int) + 1) μ = some (r, μ) ∧ L5_next_21 N k w (p : Int) ((p : Int) + 1) μ = some (r, μ) :=
        ih (p + 1) (p : Int) (μ (10 + 2 + p) 3) (by omega) (by omega) (Or.inr ⟨p, rfl, by omega, hf.symm⟩)
      have st : ∃ r, L4_next_26 N k w x y ((p : Int) + 1) μ = some (r, μ) ∧ L5_next_21 N k w x ((p : Int) + 1) μ = some (r, μ) :=
        ih (p + 1) x y (by omega) (by omega) hxy
      have g3 : inR (μ (10 + 2 + p) 3) := by omega
      rw [if_neg c, if_neg c, M1_at_eq N 10 p hp, Option.bind_some, if_pos (kdo (Or.inl rfl) hp), if_pos (ixg hp (by decide)), ix3, hf]
      simp only [bnd, J4_next_75, J4_next_68, J5_next_73, J5_next_71]
      rw [if_pos g3, if_pos g3]
      by_cases d : μ (10 + 2 + p) 3 ≤ 0
      · rw [if_pos d, if_pos d]
        exact st
      · rw [if_neg d, if_neg d]
        rcases hxy with ⟨rfl, rfl⟩ | ⟨n, rfl, hn, rfl⟩
        · have g9 : inR (-9) := by decide
          have l9 : (-9 : Int) < 0 := by decide
          rw [if_pos g9, if_pos g9, if_pos l9, if_pos l9]
          exact up
        · have gn : inR (n : Int) := by omega
          have ln : ¬ (n : Int) < 0 := by omega
          have hqn := (offP R1 ok (n := n) hn).2.2.2.1
          have hfn : μ 1 (4 + 6 * n + 3) = μ (10 + 2 + n) 3 := R1.2.2.2.2 n hn 3 (by decide)
          rw [if_pos gn, if_pos gn, if_neg ln, if_neg ln, if_pos (ixg hp (by decide)), if_pos (ixg (show n < 8 by omega) (by decide)), ix3, hfn]
          rw [hfn] at st
          have g : inR (μ (10 + 2 + p) 3) ∧ inR (μ (10 + 2 + n) 3) := by omega
          rw [if_pos g, if_pos g]
          by_cases f : μ (10 + 2 + n) 3 ≤ μ (10 + 2 + p) 3
          · rw [if_pos f, if_pos f]
            exact st
          · rw [if_neg f, if_neg f]
            exact up
theorem oth_no {w l : Int} (h : ¬ othZ w l = 0) : othZ w l = -2 ∧ ¬ (0 ≤ w ∧ w ≤ l) := by
  unfold othZ at h ⊢
  split at h <;> simp_all
theorem rf4 (N : Nat) {c : Int} (hc : -6 ≤ c ∧ c ≤ 0) (ν : mm) : ((M4_refused N c ν).bind fun (q7 : (Int × mm)) => some (q7.1, q7.2)) = M4_refused N c ν := by rw [M4_refused_eq N hc]; rfl
theorem rf5 (N : Nat) {c : Int} (hc : -6 ≤ c ∧ c ≤ 0) (ν : mm) : ((M5_no N c ν).bind fun (q7 : (Int × mm)) => some (q7.1, q7.2)) = M5_no N c ν := by rw [M5_no_eq N hc]; rfl
theorem op_next (N : Nat) (hN : 9 ≤ N) {μ : mm} (R : Rel μ) {w : Int} (hw : inR w) : Op (M4_next N w) (M5_next N w) μ := by
  have hm := R.1.2.1.1
  by_cases t : othZ w 1 = 0
  · have tt := othZ_0 t
    obtain ⟨r, e1, e2⟩ := op_next_loop N R.1.1 R.1.2.1 w tt N 0 (-9) (-9) (by omega) (by omega) (Or.inl ⟨rfl, rfl⟩)
    refine ⟨r, μ, μ, ?_, ?_, R⟩
    · simp only [M4_next]
      rw [M4_other_eq N hw (by decide), Option.bind_some, t, if_pos (by decide), if_pos rfl]
      exact e1
    · simp only [M5_next]
      rw [M5_isIn_eq N hw (by decide) (by decide), Option.bind_some, if_pos tt, if_pos (by decide), if_neg (by decide)]
      exact e2
  · obtain ⟨t1, t2⟩ := oth_no t
    refine Op_ref N R (c := -2) (by decide) ?_ (fun ν _ => ?_)
    · simp only [M4_next]
      rw [M4_other_eq N hw (by decide), Option.bind_some, t1, if_pos (by decide), if_neg (by decide), rf4 N (by decide)]
    · simp only [M5_next]
      rw [M5_isIn_eq N hw (by decide) (by decide), Option.bind_some, if_neg t2, if_pos (by decide), if_pos rfl, rf5 N (by decide)]
theorem op_shares (N : Nat) {μ : mm} (R : Rel μ) {w : Int} (hw : inR w) : Op (M4_shares N w) (M5_shares N w) μ := by
  obtain ⟨⟨a1, a2, a3⟩, -⟩ := id R
  have hm := a2.1
  have h2 := a2.2.2.1
  have e := a1.1
  have es := a1.2.1
  by_cases t : othZ w 1 = 0
  · have tt := othZ_0 t
    have m4 : M4_shares N w μ = some (if μ 1 0 = 0 then (if w = 0 then 0 else μ 1 2) else if w = 0 then μ 1 2 / μ 1 0 else μ 1 2 % μ 1 0, μ) := by
      simp only [M4_shares]
      rw [M4_other_eq N hw (by decide), Option.bind_some, t, if_pos (by decide), if_pos rfl, e, es, if_pos (show inR (μ 1 0) from by omega)]
      by_cases c : μ 1 0 = 0
      · rw [if_neg (show ¬ 1 ≤ μ 1 0 by omega), if_pos c, if_pos hw]
        split <;> rfl
      · rw [if_pos (show 1 ≤ μ 1 0 by omega), if_neg c, if_pos hw, if_pos (show 0 ≤ μ 1 2 ∧ 0 < μ 1 0 ∧ inR (μ 1 2) ∧ inR (μ 1 0) from by omega), if_pos (show 0 ≤ μ 1 2 ∧ 0 < μ 1 0 ∧ inR (μ 1 2) ∧ inR (μ 1 0) from by omega)]
        split <;> rfl
    have m5 : M5_shares N w μ = some (if μ 1 0 = 0 then (if w = 0 then 0 else μ 1 2) else if w = 0 then μ 1 2 / μ 1 0 else μ 1 2 % μ 1 0, μ) := by
      simp only [M5_shares, bnd]
      rw [M5_isIn_eq N hw (by decide) (by decide), Option.bind_some, if_pos tt, if_pos (by decide), if_neg (by decide), if_pos (show inR (μ 1 0) from by omega)]
      by_cases c : μ 1 0 = 0
      · rw [if_pos c, if_pos c, if_pos hw]
        split <;> rfl
      · rw [if_neg c, if_neg c, if_pos hw, if_pos (show 0 ≤ μ 1 2 ∧ 0 < μ 1 0 ∧ inR (μ 1 2) ∧ inR (μ 1 0) from by omega), if_pos (show 0 ≤ μ 1 2 ∧ 0 < μ 1 0 ∧ inR (μ 1 2) ∧ inR (μ 1 0) from by omega)]
        split <;> rfl
    exact ⟨_, μ, μ, m4, m5, R⟩
  · obtain ⟨t1, t2⟩ := oth_no t
    refine Op_ref N R (c := -2) (by decide) ?_ (fun ν _ => ?_)
    · simp only [M4_shares]
      rw [M4_other_eq N hw (by decide), Option.bind_some, t1, if_pos (by decide), if_neg (by decide), rf4 N (by decide)]
    · simp only [M5_shares, bnd]
      rw [M5_isIn_eq N hw (by decide) (by decide), Option.bind_some, if_neg t2, if_pos (by decide), if_pos rfl, rf5 N (by decide)]
theorem op_trusted (N : Nat) {μ : mm} (R : Rel μ) {p : Int} (hp : inR p) : Op (M4_trusted N p) (M5_trusted N p) μ := by
  obtain ⟨⟨a1, a2, a3⟩, -⟩ := id R
  have hm := a2.1
  by_cases k : unkZ μ p = 0
  · have kk := unkZ_0 k
    obtain ⟨n, rfl⟩ := Int.eq_ofNat_of_zero_le kk.1
    have hn : n < 8 := by omega
    have hf := a1.2.2.2.2 n kk.2
    refine ⟨μ (10 + 2 + n) 4 - μ (10 + 2 + n) 5, μ, μ, ?_, ?_, R⟩
    · simp only [M4_trusted]
      rw [M4_unknown_eq N hp a1 a2, Option.bind_some, k, if_pos (by decide), if_pos rfl, M1_at_eq N 10 n hn, Option.bind_some, if_pos (kdo (Or.inl rfl) hn)]
    · simp only [M5_trusted]
      rw [M5_isOne_eq N hp a2, Option.bind_some, if_pos kk, if_pos (by decide), if_neg (by decide), if_pos (ixg hn (by decide)), if_pos (ixg hn (by decide)), ix4, ix5, hf 4 (by decide), hf 5 (by decide)]
  · obtain ⟨k1, k2⟩ := unkZ_no k
    refine ⟨1000000001, r4 (-1) μ, r5 (-1) (r4 (-1) μ), ?_, ?_, Rel_ref R (by decide)⟩
    · simp only [M4_trusted]
      rw [M4_unknown_eq N hp a1 a2, Option.bind_some, k1, if_pos (by decide), if_neg (by decide), M4_refused_eq N (by decide)]
      rfl
    · simp only [M5_trusted, M5_noFar]
      have r1 : r4 (-1) μ 1 = μ 1 := r4_c (by decide)
      rw [M5_isOne_eq N hp (okR_congr a2 r1), Option.bind_some, r1, if_neg k2, if_pos (by decide), if_pos rfl, M5_no_eq N (by decide)]
      rfl
