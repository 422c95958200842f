/-- mind's row behind days in m, and the trial's person: the same -/
theorem mdays_at {μ : mm} (ok : okR μ 1) (p j : Nat) (hp : (p : Int) < μ 1 0) {q : Nat → Int} (h6 : at6 μ 1 p q) : at6 (days 2 j (cp 1 2 μ)) 2 p (dayI j q) := by
  have hm := ok.1
  refine days_at (by rw [cp_to (by decide)]; exact hp) ?_ j
  exact cp_at (by omega) h6
theorem Rel_m {μ ν : mm} (R : Rel μ) (h : ∀ a, a ≠ 43 → a ≠ 2 → a ≠ 4 → ν a = μ a) : Rel ν := by
  refine Rel_scr R (fun a ha h0 => ?_) (fun i _ _ => by rw [h 0 (by decide) (by decide) (by decide)])
  have := scr_ne ha
  exact h a (by omega) (by omega) (by omega)
theorem trialQ_p {μ : mm} {c : Nat} : ∀ k, k < 6 → trialQ μ c (μ c 2) k = μ c k := by
  intro k hk
  unfold trialQ
  by_cases h : k = 2
  · rw [if_pos h, h]
  · rw [if_neg h, if_pos hk]
theorem fst3r {a b c : Int} (ha : a = 0) (hb : b = 0) (hc : ¬ c = 0) : fstZ a b c = c := fst3 ha hb
theorem ixk (p : Nat) (w : Nat) : ((4 + (6 * (p : Int))) + (2 + (w : Int))).toNat = 4 + 6 * p + (2 + w) := by omega
theorem op_personThen (N : Nat) (hN : 200 ≤ N) {μ : mm} (R : Rel μ) {p n w : Int} (hp : inR p) (hn : inR n) (hw : inR w) : Op (M4_personThen N p n w) (M5_personThen N p n w) μ := by
  obtain ⟨⟨a1, a2, a3⟩, -⟩ := id R
  have hm := a2.1
  have hu := unkZ_in μ p
  have ho := outZ_in n 0 99
  have ht := othZ_in w 4
  have hff := fstZ_in hu ho ht
  have g4 : ∀ c : Int, -6 ≤ c ∧ c ≤ -1 → fstZ (unkZ μ p) (outZ n 0 99) (othZ w 4) = c → M4_personThen N p n w μ = M4_refused N c μ := by
    intro c hc h
    simp only [M4_personThen]
    rw [M4_unknown_eq N hp a1 a2, Option.bind_some, M4_outside_eq N hn (by decide) (by decide), Option.bind_some, M4_other_eq N hw (by decide), Option.bind_some, M4_firstOf_eq N hu ho, Option.bind_some, h, if_pos (show inR c from by omega), if_neg (show ¬ c = 0 by omega), rf4 N (by omega)]
  have g39 : ∀ (ν : mm) (c : Int), -6 ≤ c ∧ c ≤ -1 → J5_personThen_39 N p n w c ν = M5_no N c ν := by
    intro ν c hc
    simp only [J5_personThen_39]
    rw [if_pos (show inR c from by omega), if_neg (show ¬ c = 0 by omega), rf5 N (by omega)]
  have g19 : ∀ (ν : mm) (c : Int), -6 ≤ c ∧ c ≤ -1 → J5_personThen_19 N p n w c ν = M5_no N c ν := by
    intro ν c hc
    simp only [J5_personThen_19]
    rw [if_pos (show inR c from by omega), if_neg (show ¬ c = 0 by omega), g39 ν c hc]
  by_cases k : unkZ μ p = 0
  · have kk := unkZ_0 k
    obtain ⟨i, rfl⟩ := Int.eq_ofNat_of_zero_le kk.1
    have hi : i < 8 := by omega
    have h6 := a1.2.2.2.2 i kk.2
    have hq := offP a1 a2 kk.2
    by_cases o : outZ n 0 99 = 0
    · have oo := outZ_0 o
      obtain ⟨j, rfl⟩ := Int.eq_ofNat_of_zero_le oo.1
      by_cases t : othZ w 4 = 0
      · have tt := othZ_0 t
        have eT := M4_thought_eq N hi hq (has := μ (10 + 2 + i) 2) hq.2.2.1 j (by omega) (by omega)
        have D : ∀ k, k < 6 → dysC j (trialQ μ (10 + 2 + i) (μ (10 + 2 + i) 2)) k = dayI j (μ (10 + 2 + i)) k := dysC_p trialQ_p j
        have hD := dayI_ok hq j
        generalize hT : dysC j (trialQ μ (10 + 2 + i) (μ (10 + 2 + i) 2)) = T at eT D
        have e1 : putC μ 43 T 1 = μ 1 := putC_row (by decide)
        have ok1 : okR (putC μ 43 T) 1 := okR_congr a2 e1
        have M6 : at6 (days 2 j (cp 1 2 (putC μ 43 T))) 2 i (dayI j (μ (10 + 2 + i))) := mdays_at ok1 i j (by rw [e1]; exact kk.2) (by intro k hk; rw [e1]; exact h6 k hk)
        have Rf : Rel (days 2 j (cp 1 2 (putC μ 43 T))) := by
          refine Rel_m R (fun a h43 h2 h4 => ?_)
          rw [show days 2 j (cp 1 2 (putC μ 43 T)) a = cp 1 2 (putC μ 43 T) a from funext fun b => days_c h2 j, cp_row h2, putC_row h43]
        have f4 : M4_personThen N (i : Int) (j : Int) w μ = some (if w = 0 then T 2 else if w = 1 then T 3 else if w = 2 then T 4 else if w = 3 then T 5 else if T 5 ≤ μ (10 + 2 + i) 5 then 0 else 1, putC μ 43 T) := by
          simp only [M4_personThen]
          rw [M4_unknown_eq N hp a1 a2, Option.bind_some, M4_outside_eq N hn (by decide) (by decide), Option.bind_some, M4_other_eq N hw (by decide), Option.bind_some, M4_firstOf_eq N hu ho, Option.bind_some, fst3 k o, t, if_pos (by decide), if_pos rfl, M1_at_eq N 10 i hi, Option.bind_some, if_pos (kdo (Or.inl rfl) hi), eT, Option.bind_some]
          dsimp only
          have es : ∀ y, putC μ 43 T 43 y = T y := fun y => congrFun putC_s y
          have er : putC μ 43 T (10 + 2 + i) 5 = μ (10 + 2 + i) 5 := congrFun (putC_row (by omega)) 5
          rw [if_pos (by decide), if_pos hw]
          simp only [es, er]
          rw [if_pos (show inR (T 5) ∧ inR (μ (10 + 2 + i) 5) from by have := D 5 (by decide); have := hD.2.2.2.2.2; have := hq.2.2.2.2.2; omega)]
          repeat' split
          all_goals rfl
        have e5 : days 2 j (cp 1 2 (putC μ 43 T)) 1 = μ 1 := by
          rw [show days 2 j (cp 1 2 (putC μ 43 T)) 1 = cp 1 2 (putC μ 43 T) 1 from funext fun b => days_c (by decide) j, cp_row (by decide), e1]
        have f5 : M5_personThen N (i : Int) (j : Int) w (putC μ 43 T) = some (if w = 0 then T 2 else if w = 1 then T 3 else if w = 2 then T 4 else if w = 3 then T 5 else if T 5 ≤ μ (10 + 2 + i) 5 then 0 else 1, days 2 j (cp 1 2 (putC μ 43 T))) := by
          simp only [M5_personThen, J5_personThen_19, J5_personThen_39]
          rw [M5_isOne_eq N hp ok1, Option.bind_some, e1, if_pos kk, if_pos (by decide), if_neg (by decide), M5_wrongBy_eq N hn (by decide) (by decide), Option.bind_some, o, if_pos (by decide), if_pos rfl, M5_isIn_eq N hw (by decide) (by decide), Option.bind_some, if_pos tt, if_pos (by decide), if_neg (by decide), if_pos (by decide), if_pos rfl, M5_takes_eq N (by omega) ok1 (by rw [e1]; exact a3) j (by omega), Option.bind_some, if_pos hw]
          by_cases w4 : 4 ≤ w
          · rw [if_pos w4, if_pos (ixg hi (by decide)), if_pos (ixg hi (by decide)), ix5, M6 5 (by decide), e5, h6 5 (by decide), ← D 5 (by decide), if_pos (show inR (T 5) ∧ inR (μ (10 + 2 + i) 5) from by have := D 5 (by decide); have := hD.2.2.2.2.2; have := hq.2.2.2.2.2; omega), if_neg (show ¬ w = 0 by omega), if_neg (show ¬ w = 1 by omega), if_neg (show ¬ w = 2 by omega), if_neg (show ¬ w = 3 by omega)]
            split <;> rfl
          · obtain ⟨v, rfl⟩ := Int.eq_ofNat_of_zero_le tt.1
            rw [if_neg w4, if_pos (show 0 ≤ ((4 + (6 * (i : Int))) + (2 + (v : Int))) ∧ ((4 + (6 * (i : Int))) + (2 + (v : Int))) < 52 by omega), ixk, M6 (2 + v) (by omega), ← D (2 + v) (by omega)]
            have hv : v = 0 ∨ v = 1 ∨ v = 2 ∨ v = 3 := by omega
            rcases hv with rfl | rfl | rfl | rfl <;> rfl
        exact ⟨_, _, _, f4, f5, Rf⟩
      · obtain ⟨t1, t2⟩ := oth_no t
        refine Op_ref N R (c := -2) (by decide) (g4 (-2) (by decide) (by rw [fst3 k o, t1])) (fun ν hν => ?_)
        have r1 : ν 1 = μ 1 := by rw [hν]; exact r4_c (by decide)
        simp only [M5_personThen]
        rw [M5_isOne_eq N hp (okR_congr a2 r1), Option.bind_some, r1, if_pos kk, if_pos (by decide), if_neg (by decide), M5_wrongBy_eq N hn (by decide) (by decide), Option.bind_some, o]
        simp only [J5_personThen_19]
        rw [if_pos (by decide), if_pos trivial, M5_isIn_eq N hw (by decide) (by decide), Option.bind_some, if_neg t2, if_pos (by decide), if_pos rfl, g39 ν (-2) (by decide)]
    · refine Op_ref N R (c := outZ n 0 99) (by omega) (g4 _ (by omega) (fst2 k o)) (fun ν hν => ?_)
      have r1 : ν 1 = μ 1 := by rw [hν]; exact r4_c (by decide)
      simp only [M5_personThen]
      rw [M5_isOne_eq N hp (okR_congr a2 r1), Option.bind_some, r1, if_pos kk, if_pos (by decide), if_neg (by decide), M5_wrongBy_eq N hn (by decide) (by decide), Option.bind_some, g19 ν _ (by omega)]
  · obtain ⟨k1, k2⟩ := unkZ_no k
    refine Op_ref N R (c := -1) (by decide) (g4 (-1) (by decide) (by rw [fst1 k, k1])) (fun ν hν => ?_)
    have r1 : ν 1 = μ 1 := by rw [hν]; exact r4_c (by decide)
    simp only [M5_personThen]
    rw [M5_isOne_eq N hp (okR_congr a2 r1), Option.bind_some, r1, if_neg k2, if_pos (by decide), if_pos rfl, g19 ν (-1) (by decide)]
