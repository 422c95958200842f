theorem op_slip (N : Nat) (hN : 1100 ≤ N) {μ : mm} (R : Rel μ) {p n t v w : Int} (hp : inR p) (hn : inR n) (ht : inR t) (hv : inR v) (hw : inR w) : Op (M4_slip N p n t v w) (M5_slip N p n t v w) μ := by
  obtain ⟨⟨a1, a2, a3⟩, -⟩ := id R
  have hm := a2.1
  have hu := unkZ_in μ p
  have hot := othZ_in w 1
  have J47 : ∀ lo hi : Int, -6 ≤ lo ∧ lo ≤ 0 → -6 ≤ hi ∧ hi ≤ 0 → J4_slip_47 N p n t v w lo hi μ = J4_slip_76 N p n t v w (if fstZ (unkZ μ p) lo hi = 0 then othZ w 1 else fstZ (unkZ μ p) lo hi) μ := by
    intro lo hi hlo hhi
    have hf := fstZ_in hu hlo hhi
    simp only [J4_slip_47]
    rw [M4_unknown_eq N hp a1 a2, Option.bind_some, M4_firstOf_eq N hu hlo, Option.bind_some, if_pos (show inR (fstZ (unkZ μ p) lo hi) by omega), M4_other_eq N hw (by decide), Option.bind_some]
    split <;> rfl
  have J20 : ∀ lo : Int, J4_slip_20 N p n t v w lo μ = J4_slip_47 N p n t v w lo (if 7 < n ∨ 20 < t ∨ 9 < v then -6 else 0) μ := by
    intro lo
    simp only [J4_slip_20, J4_slip_41]
    rw [if_pos hn, if_pos ht, if_pos hv]
    by_cases c1 : 7 < n
    · rw [if_pos c1, if_pos (Or.inl c1)]
    · rw [if_neg c1]
      by_cases c2 : 20 < t
      · rw [if_pos c2, if_pos (Or.inr (Or.inl c2))]
      · rw [if_neg c2]
        by_cases c3 : v ≤ 9
        · rw [if_pos c3, if_neg (by omega)]
        · rw [if_neg c3, if_pos (by omega)]
  have e4 : M4_slip N p n t v w μ = J4_slip_20 N p n t v w (if n < 0 ∨ v < 0 ∨ t < 2 then -4 else 0) μ := by
    simp only [M4_slip, J4_slip_14]
    rw [if_pos hn, if_pos hv, if_pos ht]
    by_cases c1 : n < 0
    · rw [if_pos c1, if_pos (Or.inl c1)]
    · rw [if_neg c1]
      by_cases c2 : v < 0
      · rw [if_pos c2, if_pos (Or.inr (Or.inl c2))]
      · rw [if_neg c2]
        by_cases c3 : 2 ≤ t
        · rw [if_pos c3, if_neg (by omega)]
        · rw [if_neg c3, if_pos (by omega)]
  rw [J20, J47 _ _ (by split <;> decide) (by split <;> decide)] at e4
  have bad : ∀ c : Int, -6 ≤ c ∧ c ≤ -1 → J4_slip_76 N p n t v w c μ = some (4000000000000000000 - c, r4 c μ) := by
    intro c hc
    simp only [J4_slip_76]
    rw [if_pos (show inR c by omega), if_neg (show ¬ c = 0 by omega), rfw4 N (by omega)]
  by_cases k : unkZ μ p = 0
  · have kk := unkZ_0 k
    obtain ⟨i, rfl⟩ := Int.eq_ofNat_of_zero_le kk.1
    have hi : i < 8 := by omega
    by_cases lo : n < 0 ∨ v < 0 ∨ t < 2
    · rw [if_pos lo, fst2 k (by decide), if_neg (by decide), bad (-4) (by decide)] at e4
      refine Op_wide N R (c := -4) (by decide) e4 (fun ν hν => ?_)
      have r1 : ν 1 = μ 1 := by rw [hν]; exact r4_c (by decide)
      simp only [M5_slip, J5_slip_28]
      rw [M5_isOne_eq N hp (okR_congr a2 r1), Option.bind_some, r1, if_pos kk, if_pos (by decide), if_neg (by decide), if_pos hn, if_pos hv, if_pos ht, noWide_eq N (by decide)]
      by_cases c1 : n < 0
      · rw [if_pos c1]
      · rw [if_neg c1]
        by_cases c2 : v < 0
        · rw [if_pos c2]
        · rw [if_neg c2, if_neg (by omega)]
    · rw [if_neg lo] at e4
      by_cases hi' : 7 < n ∨ 20 < t ∨ 9 < v
      · rw [if_pos hi', fst3 k rfl, if_neg (by decide), bad (-6) (by decide)] at e4
        refine Op_wide N R (c := -6) (by decide) e4 (fun ν hν => ?_)
        have r1 : ν 1 = μ 1 := by rw [hν]; exact r4_c (by decide)
        simp only [M5_slip, J5_slip_54]
        rw [M5_isOne_eq N hp (okR_congr a2 r1), Option.bind_some, r1, if_pos kk, if_pos (by decide), if_neg (by decide), if_pos hn, if_neg (show ¬ n < 0 by omega), if_pos hv, if_neg (show ¬ v < 0 by omega), if_pos ht, if_pos (show 2 ≤ t by omega), if_pos hn, if_pos ht, if_pos hv, noWide_eq N (by decide)]
        by_cases c1 : 7 < n
        · rw [if_pos c1]
        · rw [if_neg c1]
          by_cases c2 : 20 < t
          · rw [if_pos c2]
          · rw [if_neg c2, if_neg (by omega)]
      · rw [if_neg hi', fst3 k rfl, if_pos rfl] at e4
        have g5 : ∀ ν : mm, ν 1 = μ 1 → M5_slip N (i : Int) n t v w ν = ((M5_isIn N w 0 1 ν).bind fun (q11 : Int) => if inR q11 then (if q11 = 0 then ((M5_noWide N (-2) ν).bind fun (q43 : (Int × mm)) => some (q43.1, q43.2)) else (L5_slip_87 N N (i : Int) n t v w 0 1 0 ν)) else none) := by
          intro ν r1
          simp only [M5_slip, J5_slip_54]
          rw [M5_isOne_eq N hp (okR_congr a2 r1), Option.bind_some, r1, if_pos kk, if_pos (by decide), if_neg (by decide), if_pos hn, if_neg (show ¬ n < 0 by omega), if_pos hv, if_neg (show ¬ v < 0 by omega), if_pos ht, if_pos (show 2 ≤ t by omega), if_pos hn, if_neg (show ¬ 7 < n by omega), if_pos ht, if_neg (show ¬ 20 < t by omega), if_pos hv, if_pos (show v ≤ 9 by omega)]
        by_cases o : othZ w 1 = 0
        · have oo := othZ_0 o
          obtain ⟨j, rfl⟩ := Int.eq_ofNat_of_zero_le (show 0 ≤ n by omega)
          have hj : j ≤ 7 := by omega
          have hq := offP a1 a2 kk.2
          have h6 := a1.2.2.2.2 i kk.2
          have hP : 2 ^ j ≤ 2 ^ 7 := Nat.pow_le_pow_right (by decide) hj
          have h7 : (2 : Nat) ^ 7 = 128 := by decide
          have W := wyN_in (μ (10 + 2 + i)) hj (a := t - 1) (by omega) v (2 ^ j)
          have hT : 0 < t ^ j ∧ t ^ j < 1099511627776 := by
            obtain ⟨b, rfl⟩ := Int.eq_ofNat_of_zero_le (show 0 ≤ t by omega)
            have h1 : b ^ j ≤ 20 ^ j := Nat.pow_le_pow_left (by omega) j
            have h2 : 20 ^ j ≤ 20 ^ 7 := Nat.pow_le_pow_right (by decide) hj
            have h3 : (20 : Nat) ^ 7 = 1280000000 := by decide
            have h4 : 0 < b ^ j := Nat.pow_pos (by omega)
            have e : ((b : Int)) ^ j = ((b ^ j : Nat) : Int) := (Int.natCast_pow b j).symm
            rw [e]
            omega
          obtain ⟨r, t4, t5⟩ := terms_eq N (by omega) (a := wyN (μ (10 + 2 + i)) j (t - 1) v (2 ^ j)) (b := t ^ j) (w := w) (by omega) (Or.inl hT) (by omega) oo μ μ
          have k4 : ∀ ν : mm, M4_leastTerms N (wyN (μ (10 + 2 + i)) j (t - 1) v (2 ^ j)) (t ^ j) w ν = some r := by
            intro ν
            obtain ⟨r', u4, u5⟩ := terms_eq N (by omega) (a := wyN (μ (10 + 2 + i)) j (t - 1) v (2 ^ j)) (b := t ^ j) (w := w) (by omega) (Or.inl hT) (by omega) oo ν μ
            rw [u4, ← u5, t5]
          have k5 : ∀ ν : mm, M5_partOf N (wyN (μ (10 + 2 + i)) j (t - 1) v (2 ^ j)) (t ^ j) w ν = some r := by
            intro ν
            obtain ⟨r', u4, u5⟩ := terms_eq N (by omega) (a := wyN (μ (10 + 2 + i)) j (t - 1) v (2 ^ j)) (b := t ^ j) (w := w) (by omega) (Or.inl hT) (by omega) oo μ ν
            rw [u5, ← u4, t4]
          obtain ⟨μ1, f4, g4⟩ := slip4 N (by omega) hi hq j hj (t := t) (v := v) (w := w) (by omega) (by omega) r k4 N 0 μ (by omega) (by omega) (fun _ _ => rfl)
          have r1 : μ1 1 = μ 1 := g4 1 (by decide)
          obtain ⟨μ2, f5, g5'⟩ := slip5 N (by omega) (μ := μ1) (p := i) (by rw [r1]; exact kk.2) (okR_congr a2 r1) (by rw [r1]; exact a3) (q := μ (10 + 2 + i)) (by intro k hk; rw [r1]; exact h6 k hk) j hj (t := t) (v := v) (w := w) (by omega) (by omega) r k5 N 0 μ1 (by omega) (by omega) (fun _ _ => rfl)
          rw [show ((0 : Nat) : Int) = 0 from rfl] at f4 f5
          refine ⟨r, μ1, μ2, ?_, ?_, Rel_m R (fun a h43 h2 _ => (g5' a h2).trans (g4 a h43))⟩
          · rw [e4, o]
            simp only [J4_slip_76]
            rw [if_pos (by decide), if_pos trivial]
            exact f4
          · rw [g5 μ1 r1, M5_isIn_eq N hw (by decide) (by decide), Option.bind_some, if_pos oo, if_pos (by decide), if_neg (by decide)]
            have := total_loop N j hj (t := t) (by omega) (i : Int) v w 0 μ1 N 0 (by omega) (by omega)
            rw [Int.pow_zero, show ((0 : Nat) : Int) = 0 from rfl] at this
            rw [this]
            exact f5
        · obtain ⟨o1, o2⟩ := oth_no o
          rw [o1, bad (-2) (by decide)] at e4
          refine Op_wide N R (c := -2) (by decide) e4 (fun ν hν => ?_)
          have r1 : ν 1 = μ 1 := by rw [hν]; exact r4_c (by decide)
          rw [g5 ν r1, M5_isIn_eq N hw (by decide) (by decide), Option.bind_some, if_neg o2, if_pos (by decide), if_pos rfl, noWide_eq N (by decide)]
  · obtain ⟨k1, k2⟩ := unkZ_no k
    rw [fst1 k, if_neg k, k1, bad (-1) (by decide)] at e4
    refine Op_wide N R (c := -1) (by decide) e4 (fun ν hν => ?_)
    have r1 : ν 1 = μ 1 := by rw [hν]; exact r4_c (by decide)
    simp only [M5_slip]
    rw [M5_isOne_eq N hp (okR_congr a2 r1), Option.bind_some, r1, if_neg k2, if_pos (by decide), if_pos rfl, noWide_eq N (by decide)]
