/-! first -/
def fmZ (f : Nat → Int) : Nat → Nat → Int
  | 0, _ => -9
  | k + 1, p => if f p = 0 then fmZ f k (p + 1) else (p : Int)
theorem fmZ_in (f : Nat → Int) : ∀ k p, fmZ f k p = -9 ∨ ((p : Int) ≤ fmZ f k p ∧ fmZ f k p < (p : Int) + k) := by
  intro k
  induction k with
  | zero => intro p; exact Or.inl rfl
  | succ k ih =>
    intro p
    unfold fmZ
    by_cases c : f p = 0
    · rw [if_pos c]
      have := ih (p + 1)
      omega
    · rw [if_neg c]
      omega
theorem fmZ_congr {f g : Nat → Int} : ∀ k p, (∀ i, p ≤ i → i < p + k → f i = g i) → fmZ f k p = fmZ g k p := by
  intro k
  induction k with
  | zero => intro p _; rfl
  | succ k ih =>
    intro p h
    unfold fmZ
    rw [h p (by omega) (by omega), ih (p + 1) (fun i h1 h2 => h i (by omega) (by omega))]
theorem firstMissing_loop (N : Nat) {o : Nat} (ho : isO o) {ξ : mm} (hm : 0 ≤ ξ o 2 ∧ ξ o 2 ≤ 8) (hv : ∀ p : Nat, (p : Int) < ξ o 2 → 0 ≤ ξ (o + 2 + p) 7 ∧ ξ (o + 2 + p) 7 ≤ 1) : ∀ (k p : Nat), (p : Int) ≤ ξ o 2 → ξ o 2 < (p : Int) + k → L1_firstMissing_2 N k o (p : Int) ξ = some (fmZ (fun p => ξ (o + 2 + p) 7) ((ξ o 2).toNat - p) p) := by
  intro k
  induction k with
  | zero => intro p h1 h2; omega
  | succ k ih =>
    intro p h1 h2
    rw [L1_firstMissing_2, if_pos (show inR (p : Int) ∧ inR (ξ o 2) from by omega)]
    by_cases c : ξ o 2 ≤ (p : Int)
    · rw [if_pos c, show (ξ o 2).toNat - p = 0 by omega]
      rfl
    · have hp : p < 8 := by omega
      have hh := hv p (by omega)
      rw [if_neg c, M1_at_eq N o p hp, Option.bind_some, if_pos (kdO ho hp), if_pos (show inR (ξ (o + 2 + p) 7) from by omega), show (ξ o 2).toNat - p = ((ξ o 2).toNat - (p + 1)) + 1 by omega, fmZ]
      by_cases d : ξ (o + 2 + p) 7 = 0
      · rw [if_pos (show ξ (o + 2 + p) 7 ≤ 0 by omega), if_pos d]
        exact ih (p + 1) (by omega) (by omega)
      · rw [if_neg (show ¬ ξ (o + 2 + p) 7 ≤ 0 by omega), if_neg d]
theorem first55 (N : Nat) (rec29 : Int → Int → mm → Option (Int × mm)) {ν : mm} (hm : 0 ≤ ν 1 0 ∧ ν 1 0 ≤ 8) (hv : ∀ p : Nat, (p : Int) < ν 1 0 → okP (pq ν 4 p)) {w x : Int} (hw : inR w) : ∀ (k p : Nat), (p : Int) ≤ ν 1 0 → ν 1 0 < (p : Int) + k → L5_first_55 N rec29 k w x (p : Int) ν = if fmZ (fun p => shoP (pq ν 4 p)) ((ν 1 0).toNat - p) p < 0 then rec29 w (x + 1) ν else some (if w = 0 then fmZ (fun p => shoP (pq ν 4 p)) ((ν 1 0).toNat - p) p else x, ν) := by
  intro k
  induction k with
  | zero => intro p h1 h2; omega
  | succ k ih =>
    intro p h1 h2
    rw [L5_first_55, if_pos (show inR (p : Int) ∧ inR (ν 1 0) from by omega)]
    by_cases c : ν 1 0 ≤ (p : Int)
    · rw [if_pos c, show (ν 1 0).toNat - p = 0 by omega, fmZ, if_pos (show (-9 : Int) < 0 by decide)]
    · have hp : p < 8 := by omega
      have hs := shoP_in (pq ν 4 p)
      rw [if_neg c, M5_isShortOn_eq N p hp (pq_at ν 4 p) (hv p (by omega)), Option.bind_some, if_pos (show inR (shoP (pq ν 4 p)) from by omega), show (ν 1 0).toNat - p = ((ν 1 0).toNat - (p + 1)) + 1 by omega, fmZ]
      by_cases d : shoP (pq ν 4 p) = 0
      · rw [if_pos d, if_pos d]
        exact ih (p + 1) (by omega) (by omega)
      · rw [if_neg d, if_neg d, if_neg (show ¬ (p : Int) < 0 by omega), if_pos hw]
        by_cases e : w = 0
        · rw [if_pos e, if_pos e]
        · rw [if_neg e, if_neg e]
theorem first_loop (N : Nat) (hN : 200 ≤ N) {w : Int} (hw : inR w) : ∀ (k i : Nat) (ξ : mm), i ≤ 99 → 99 < i + k → okO ξ 21 → (∀ p : Nat, (p : Int) < ξ 21 2 → ξ (21 + 2 + p) 7 = 0) →
    ∃ (r : Int) (ξ' : mm), L4_first_29 N k w ((i : Int) + 1) ξ = some (r, ξ') ∧ (∀ a, a ≠ 21 → (a < 23 ∨ 31 ≤ a) → ξ' a = ξ a) ∧
      ∀ ν : mm, relX 21 2 ξ ν → okR ν 2 → ν 1 0 = ν 2 0 → ν 2 1 ≤ 2000 + (i : Int) → ∃ ν', L5_first_29 N k w ((i : Int) + 1) ν = some (r, ν') ∧ ∀ a, a ≠ 2 → a ≠ 4 → ν' a = ν a := by
  intro k
  induction k with
  | zero => intro i ξ h1 h2; omega
  | succ k ih =>
    intro i ξ h1 h2 ok h7
    by_cases c : 99 < (i : Int) + 1
    · refine ⟨-9, ξ, ?_, fun _ _ _ => rfl, fun ν _ _ _ _ => ⟨ν, ?_, fun _ _ _ => rfl⟩⟩
      · rw [L4_first_29, if_pos (show inR ((i : Int) + 1) from by omega), if_pos c]
      · rw [L5_first_29, if_pos (show inR ((i : Int) + 1) from by omega), if_pos c]
    · have hm := ok.1
      have eD := M1_daysGoBy_eq N (o := 21) (Or.inr (Or.inl rfl)) (by omega) ok 1 (by decide) (by omega)
      rw [show ((1 : Nat) : Int) = 1 from rfl, show dysO 21 1 ξ = dyO 21 ξ from rfl] at eD
      have okD := dyO_ok ok
      have m2 : dyO 21 ξ 21 2 = ξ 21 2 := dyN_sc (by decide) (by decide)
      have v7 : ∀ p : Nat, (p : Int) < ξ 21 2 → dyO 21 ξ (21 + 2 + p) 7 = shoP (ξ (21 + 2 + p)) := by
        intro p hp
        have e : dyO 21 ξ (21 + 2 + p) = dayC (ξ (21 + 2 + p)) := dyN_p (by omega)
        rw [e]
        show ξ (21 + 2 + p) 7 + shoP (ξ (21 + 2 + p)) = _
        rw [h7 p hp]
        omega
      have frD : ∀ a, a ≠ 21 → (a < 23 ∨ 31 ≤ a) → dyO 21 ξ a = ξ a := fun a h1 h2 => dyN_c h1 (by omega)
      have eF := firstMissing_loop N (o := 21) (Or.inr (Or.inl rfl)) (ξ := dyO 21 ξ) okD.1 (fun p hp => by rw [v7 p (by omega)]; exact shoP_in _) N 0 (by omega) (by omega)
      have eC : fmZ (fun p => dyO 21 ξ (21 + 2 + p) 7) ((dyO 21 ξ 21 2).toNat - 0) 0 = fmZ (fun p => shoP (ξ (21 + 2 + p))) ((ξ 21 2).toNat - 0) 0 := by
        rw [m2]
        exact fmZ_congr _ _ (fun j _ hj => v7 j (by omega))
      rw [eC, show ((0 : Nat) : Int) = 0 from rfl] at eF
      have hz := fmZ_in (fun p => shoP (ξ (21 + 2 + p))) ((ξ 21 2).toNat - 0) 0
      generalize hZ : fmZ (fun p => shoP (ξ (21 + 2 + p))) ((ξ 21 2).toNat - 0) 0 = z at eF hz
      have g4 : L4_first_29 N (k + 1) w ((i : Int) + 1) ξ = if z < 0 then L4_first_29 N k w ((i : Int) + 1 + 1) (dyO 21 ξ) else some (if w = 0 then z else (i : Int) + 1, dyO 21 ξ) := by
        rw [L4_first_29, if_pos (show inR ((i : Int) + 1) from by omega), if_neg c, eD, Option.bind_some]
        unfold M1_firstMissing
        rw [eF, Option.bind_some, if_pos (show inR z from by omega), if_pos hw]
        split
        · rfl
        · split <;> rfl
      have g5 : ∀ ν : mm, relX 21 2 ξ ν → okR ν 2 → ν 1 0 = ν 2 0 → L5_first_29 N (k + 1) w ((i : Int) + 1) ν = if z < 0 then L5_first_29 N k w ((i : Int) + 1 + 1) (dayR 2 (cp 2 4 ν)) else some (if w = 0 then z else (i : Int) + 1, dayR 2 (cp 2 4 ν)) := by
        intro ν X okν e12
        have e2 : cp 2 4 ν 2 = ν 2 := cp_row (by decide)
        have ok2 : okR (cp 2 4 ν) 2 := okR_congr okν e2
        have e1 : dayR 2 (cp 2 4 ν) 1 0 = ν 1 0 := (dayR_c (by decide)).trans (cp_c (by decide))
        have hm2 := okν.1
        have e4 : ∀ p : Nat, p < 8 → ∀ t, t < 6 → pq (dayR 2 (cp 2 4 ν)) 4 p t = pq ν 2 p t := by
          intro p hp t ht
          exact (dayR_c (by decide)).trans (cp_to (by omega))
        rw [L5_first_29, if_pos (show inR ((i : Int) + 1) from by omega), if_neg c, M5_copies_eq N 2 4 (by omega) (by decide), Option.bind_some, M5_day_eq N 2 (by omega) ok2, Option.bind_some]
        have := first55 N (L5_first_29 N k) (ν := dayR 2 (cp 2 4 ν)) (by rw [e1, e12]; exact hm2) (fun p hp => okP_congr (okν.2.2.2.2 p (by rw [e1, e12] at hp; exact hp)) (e4 p (by rw [e1, e12] at hp; omega))) (w := w) (x := (i : Int) + 1) hw N 0 (by rw [e1, e12]; omega) (by rw [e1, e12]; omega)
        rw [show ((0 : Nat) : Int) = 0 from rfl] at this
        rw [this]
        have ez : fmZ (fun p => shoP (pq (dayR 2 (cp 2 4 ν)) 4 p)) ((dayR 2 (cp 2 4 ν) 1 0).toNat - 0) 0 = z := by
          rw [← hZ, e1, e12, ← X.1]
          refine fmZ_congr _ _ (fun j _ hj => shoP_congr (fun t ht => ?_))
          rw [e4 j (by omega) t ht]
          exact X.2.2.2.2 j (by have := X.1; omega) t ht
        rw [ez]
      by_cases d : z < 0
      · have zn : ∀ p : Nat, (p : Int) < ξ 21 2 → shoP (ξ (21 + 2 + p)) = 0 := by
          have key : ∀ (f : Nat → Int) k p, fmZ f k p < 0 → ∀ j, p ≤ j → j < p + k → f j = 0 := by
            intro f k
            induction k with
            | zero => intro p _ j h1 h2; omega
            | succ k ih =>
              intro p h j h1 h2
              unfold fmZ at h
              by_cases e : f p = 0
              · rw [if_pos e] at h
                by_cases ej : j = p
                · rw [ej]; exact e
                · exact ih (p + 1) h j (by omega) (by omega)
              · rw [if_neg e] at h
                omega
          intro p hp
          exact key (fun p => shoP (ξ (21 + 2 + p))) _ 0 (by rw [hZ]; exact d) p (by omega) (by omega)
        obtain ⟨r, ξ', e, f, g⟩ := ih (i + 1) (dyO 21 ξ) (by omega) (by omega) okD (fun p hp => by rw [m2] at hp; rw [v7 p hp, zn p hp])
        refine ⟨r, ξ', ?_, fun a h1 h2 => (f a h1 h2).trans (frD a h1 h2), fun ν X okν e12 hd => ?_⟩
        · rw [g4, if_pos d]
          exact e
        · have e2 : cp 2 4 ν 2 = ν 2 := cp_row (by decide)
          have ok2 : okR (cp 2 4 ν) 2 := okR_congr okν e2
          have X' : relX 21 2 (dyO 21 ξ) (dayR 2 (cp 2 4 ν)) := relX_day (relX_congr X okν.1.2 rfl (fun _ _ => rfl) (fun j _ => by rw [e2])) ok2
          obtain ⟨ν', e', f'⟩ := g (dayR 2 (cp 2 4 ν)) X' (dayR_ok ok2 (by rw [e2]; omega)) (by rw [show dayR 2 (cp 2 4 ν) 1 0 = ν 1 0 from (dayR_c (by decide)).trans (cp_c (by decide)), show dayR 2 (cp 2 4 ν) 2 0 = cp 2 4 ν 2 0 from dayN_many, e2]; exact e12) (by rw [show dayR 2 (cp 2 4 ν) 2 1 = cp 2 4 ν 2 1 + 1 from dayN_day, e2]; omega)
          refine ⟨ν', ?_, fun a h2 h4 => ?_⟩
          · rw [g5 ν X okν e12, if_pos d]
            exact e'
          · rw [f' a h2 h4, show dayR 2 (cp 2 4 ν) a = cp 2 4 ν a from funext fun b => dayR_c h2, cp_row h4]
      · refine ⟨_, dyO 21 ξ, by rw [g4, if_neg d], frD, fun ν X okν e12 hd => ⟨_, by rw [g5 ν X okν e12, if_neg d], fun a h2 h4 => ?_⟩⟩
        rw [show dayR 2 (cp 2 4 ν) a = cp 2 4 ν a from funext fun b => dayR_c h2, cp_row h4]
theorem op_first (N : Nat) (hN : 200 ≤ N) {μ : mm} (R : Rel μ) {w : Int} (hw : inR w) : Op (M4_first N w) (M5_first N w) μ := by
  obtain ⟨⟨a1, a2, a3⟩, -⟩ := id R
  have hm := a2.1
  by_cases t : othZ w 1 = 0
  · have tt := othZ_0 t
    obtain ⟨X, okm, ok21⟩ := mind_days a1 a2 a3 (μ' := μ) rfl 0 (by omega)
    obtain ⟨r, ξ', e4, f4, g⟩ := first_loop N hN hw N 0 (mindT μ) (by omega) (by omega) ok21 (fun p hp => by
      have e := a1.1
      have e2 : mindT μ 21 2 = μ 10 2 := tkN_sc (by decide)
      exact tkN_z (by omega) (by decide) (by decide))
    have r1 : ξ' 1 = μ 1 := by rw [f4 1 (by decide) (by omega), mindT_c a1 a2 (by decide) (by omega)]
    obtain ⟨X', okm', -⟩ := mind_days a1 a2 a3 r1 0 (by omega)
    have c0 : cp 1 2 ξ' 2 0 = μ 1 0 := by rw [cp_to (by decide), r1]
    have c1 : cp 1 2 ξ' 2 1 = μ 1 1 := by rw [cp_to (by decide), r1]
    obtain ⟨ν', e5, f5⟩ := g (cp 1 2 ξ') X' okm' (by rw [c0, cp_c (by decide), r1]) (by rw [c1]; omega)
    rw [show ((0 : Nat) : Int) + 1 = 1 from rfl] at e4 e5
    refine ⟨r, ξ', ν', ?_, ?_, ?_⟩
    · simp only [M4_first]
      rw [M4_other_eq N hw (by decide), Option.bind_some, t, if_pos (by decide), if_pos rfl, mind_eq N (by omega) a1 a2, Option.bind_some]
      exact e4
    · simp only [M5_first]
      rw [M5_isIn_eq N hw (by decide) (by decide), Option.bind_some, if_pos tt, if_pos (by decide), if_neg (by decide), M5_copies_eq N 1 2 (by omega) (by decide), Option.bind_some]
      exact e5
    · refine Rel_scr R (fun a ha h0 => ?_) (fun i _ _ => ?_)
      · have := scr_ne ha
        rw [f5 a (by omega) (by omega), cp_row (by omega), f4 a (by omega) (by omega), mindT_c a1 a2 (by omega) (by omega)]
      · rw [f5 0 (by decide) (by decide), cp_c (by decide), f4 0 (by decide) (by omega), mindT_c a1 a2 (by decide) (by omega)]
  · obtain ⟨t1, t2⟩ := oth_no t
    refine Op_ref N R (c := -2) (by decide) ?_ (fun ν _ => ?_)
    · simp only [M4_first]
      rw [M4_other_eq N hw (by decide), Option.bind_some, t1, if_pos (by decide), if_neg (by decide), rf4 N (by decide)]
    · simp only [M5_first]
      rw [M5_isIn_eq N hw (by decide) (by decide), Option.bind_some, if_neg t2, if_pos (by decide), if_pos rfl, rf5 N (by decide)]
