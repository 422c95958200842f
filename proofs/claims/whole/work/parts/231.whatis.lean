/-! whatIs -/
theorem len65 (N : Nat) (μ : mm) : M0_length_8abf5 N 65 μ = some 6 := rfl
theorem zor_in (x y : Int) : inR (zor x y) := by
  have a := Int32.toInt_lt (iO x ||| iO y)
  have b := Int32.le_toInt (iO x ||| iO y)
  unfold zor
  omega
theorem zor_0 {x : Int} (h : inR x) : zor x 0 = x := by
  unfold zor
  rw [show iO 0 = (0 : Int32) from rfl, Int32.or_zero]
  exact iO_toInt h
theorem rowIs4 (N : Nat) {μ : mm} (W : relW μ) {q q' : Nat → Int} (hq : okP q) (h : ∀ k, k < 6 → q k = q' k) : ∀ (k i : Nat), (i : Int) ≤ μ 0 9 → μ 0 9 < (i : Int) + k → ∃ (r : Int) (T : Nat → Int), L4_rowIsOfTrial_2 N k (i : Int) (putC μ 43 (dysC (i - 1) q)) = some (r, putC μ 43 T) ∧ (r = 0 ∨ r = 1) ∧ (r = 1 ↔ ∀ j : Nat, i ≤ j → (j : Int) < μ 0 9 → dayI j q' 2 = μ 6 j) := by
  obtain ⟨t1, t2, t3⟩ := W
  intro k
  induction k with
  | zero => intro i h1 h2; omega
  | succ k ih =>
    intro i h1 h2
    have e9 : putC μ 43 (dysC (i - 1) q) 9 9 = μ 0 9 := (congrFun (putC_row (by decide)) 9).trans t1
    rw [L4_rowIsOfTrial_2]
    simp only [e9]
    rw [if_pos (show inR (i : Int) ∧ inR (μ 0 9) by omega)]
    by_cases c : μ 0 9 ≤ (i : Int)
    · rw [if_pos c]
      exact ⟨1, _, rfl, Or.inr rfl, fun _ j h1 h2 => by omega, fun _ => rfl⟩
    · rw [if_neg c, if_pos (show inR (i : Int) by omega), if_neg (show ¬ 16 ≤ (i : Int) by omega), if_pos (show inR (i : Int) by omega)]
      have chk : ∃ (r : Int) (T : Nat → Int), J4_rowIsOfTrial_31 N (L4_rowIsOfTrial_2 N k) (i : Int) (putC μ 43 (dysC i q)) = some (r, putC μ 43 T) ∧ (r = 0 ∨ r = 1) ∧ (r = 1 ↔ ∀ j : Nat, i ≤ j → (j : Int) < μ 0 9 → dayI j q' 2 = μ 6 j) := by
        have e2 : putC μ 43 (dysC i q) 43 2 = dayI i q' 2 := (congrFun putC_s 2).trans (dysC_p h i 2 (by decide))
        have e46 : putC μ 43 (dysC i q) 46 i = μ 6 i := (congrFun (putC_row (by decide)) i).trans (t3 i (by omega)).1
        have w := (t3 i (by omega)).2
        have ok2 := (dysC_ok hq i).2.2.1
        rw [dysC_p h i 2 (by decide)] at ok2
        simp only [J4_rowIsOfTrial_31, Int.toNat_natCast, e2, e46]
        rw [if_pos (show 0 ≤ (i : Int) ∧ (i : Int) < 16 by omega), if_pos (show inR (dayI i q' 2) ∧ inR (μ 6 i) by omega)]
        by_cases d : dayI i q' 2 = μ 6 i
        · rw [if_pos d]
          obtain ⟨r, T, e, hr, iff⟩ := ih (i + 1) (by omega) (by omega)
          refine ⟨r, T, e, hr, fun z j h1 h2 => ?_, fun z => iff.mpr (fun j h1 h2 => z j (by omega) h2)⟩
          by_cases u : j = i
          · subst u
            exact d
          · exact iff.mp z j (by omega) h2
        · rw [if_neg d]
          exact ⟨0, _, rfl, Or.inl rfl, fun z => absurd z (by decide), fun z => absurd (z i (Nat.le_refl i) (by omega)) d⟩
      by_cases z : (i : Int) ≤ 0
      · rw [if_pos z]
        have : i = 0 := by omega
        subst this
        exact chk
      · obtain ⟨m, rfl⟩ : ∃ m, i = m + 1 := ⟨i - 1, by omega⟩
        rw [if_neg z, show m + 1 - 1 = m by omega, M2_oneDay_eq N 43 (by rw [putC_s]; exact dysC_ok hq m), Option.bind_some, putC_s, putC_putC]
        exact chk
theorem rowIs5 (N : Nat) (hN : 200 ≤ N) (rec : Int → Int → Int → Int → mm → Option (Int × mm)) {μ : mm} (W : relW μ) {p : Nat} (hp : p < 8) {q : Nat → Int} (hq : okP q) (x2 x3 : Int) (x4 : Nat) (hx4 : x4 < 32) : ∀ (k i : Nat) (b : Int) (ν : mm), (i : Int) ≤ μ 0 9 → μ 0 9 < (i : Int) + k → (b = 0 ∨ b = 1) → (∀ a, a ≠ 2 → ν a = μ a) → okR ν 2 → (p : Int) < ν 2 0 → ν 2 1 ≤ 2000 + (i : Int) → at6 ν 2 p (dayI i q) →
    ∃ (y : Int) (ν' : mm), L5_whatIs_80 N rec k (p : Int) x2 x3 (x4 : Int) b (i : Int) ν = rec (p : Int) x2 (zor x3 (if y = 0 then 0 else 1 * 2 ^ x4)) ((x4 : Int) + 1) ν' ∧ (y = 0 ∨ y = 1) ∧ (y = 1 ↔ b = 1 ∧ ∀ j : Nat, i ≤ j → (j : Int) < μ 0 9 → dayI j q 2 = μ 6 j) ∧ ∀ a, a ≠ 2 → ν' a = μ a := by
  obtain ⟨t1, t2, t3⟩ := W
  intro k
  induction k with
  | zero => intro i b ν h1 h2; omega
  | succ k ih =>
    intro i b ν h1 h2 hb hf ok hm hd h6
    have e0 : ν 0 9 = μ 0 9 := by rw [hf 0 (by decide)]
    rw [L5_whatIs_80, e0, if_pos (show inR (i : Int) ∧ inR (μ 0 9) by omega)]
    by_cases c : μ 0 9 ≤ (i : Int)
    · refine ⟨b, ν, ?_, hb, ⟨fun z => ⟨z, fun j h1 h2 => by omega⟩, fun z => z.1⟩, hf⟩
      rw [if_pos c, if_pos (show inR b by omega), if_pos (show 0 ≤ (x4 : Int) ∧ (x4 : Int) < 32 by omega)]
      simp only [J5_whatIs_146, bnd]
      by_cases d : b = 0
      · rw [if_pos d, if_pos d]
      · rw [if_neg d, if_neg d]
        rfl
    · have w := (t3 i (by omega)).2
      have okI := dayI_ok hq i
      have ok2 := okI.2.2.1
      have e6 : ν 6 i = μ 6 i := by rw [hf 6 (by decide)]
      have nx : ∀ b' : Int, (b' = 0 ∨ b' = 1) → (b' = 1 ↔ b = 1 ∧ dayI i q 2 = μ 6 i) → ∃ (y : Int) (ν' : mm), L5_whatIs_80 N rec k (p : Int) x2 x3 (x4 : Int) b' ((i : Int) + 1) (dayR 2 ν) = rec (p : Int) x2 (zor x3 (if y = 0 then 0 else 1 * 2 ^ x4)) ((x4 : Int) + 1) ν' ∧ (y = 0 ∨ y = 1) ∧ (y = 1 ↔ b = 1 ∧ ∀ j : Nat, i ≤ j → (j : Int) < μ 0 9 → dayI j q 2 = μ 6 j) ∧ ∀ a, a ≠ 2 → ν' a = μ a := by
        intro b' hb' hiff
        obtain ⟨y, ν', e, hy, iff, f⟩ := ih (i + 1) b' (dayR 2 ν) (by omega) (by omega) hb' (fun a h => by rw [dayR_row h, hf a h]) (dayR_ok ok (by omega)) (by rw [show dayR 2 ν 2 0 = ν 2 0 from dayN_many]; exact hm) (by rw [show dayR 2 ν 2 1 = ν 2 1 + 1 from dayN_day]; omega) (dayR_at hm h6)
        refine ⟨y, ν', e, hy, iff.trans ?_, f⟩
        constructor
        · intro z
          have z1 := hiff.mp z.1
          refine ⟨z1.1, fun j h1 h2 => ?_⟩
          by_cases u : j = i
          · subst u
            exact z1.2
          · exact z.2 j (by omega) h2
        · intro z
          exact ⟨hiff.mpr ⟨z.1, z.2 i (Nat.le_refl i) (by omega)⟩, fun j h1 h2 => z.2 j (by omega) h2⟩
      rw [if_neg c, if_pos (ixg hp (by decide)), ix2, h6 2 (by decide), if_pos (show 0 ≤ (i : Int) ∧ (i : Int) < 16 by omega), Int.toNat_natCast, e6, if_pos (show inR (dayI i q 2) ∧ inR (μ 6 i) by omega)]
      simp only [J5_whatIs_116, bnd]
      rw [M5_day_eq N 2 (by omega) ok, Option.bind_some, Option.bind_some]
      by_cases d : dayI i q 2 = μ 6 i
      · rw [if_pos d]
        rcases hb with rfl | rfl
        · exact nx (zand 0 1) (Or.inl (by decide)) (by rw [show zand 0 1 = 0 by decide]; exact ⟨fun z => absurd z (by decide), fun z => absurd z.1 (by decide)⟩)
        · exact nx (zand 1 1) (Or.inr (by decide)) (by rw [show zand 1 1 = 1 by decide]; exact ⟨fun _ => ⟨rfl, d⟩, fun _ => rfl⟩)
      · rw [if_neg d]
        rcases hb with rfl | rfl
        · exact nx (zand 0 0) (Or.inl (by decide)) (by rw [show zand 0 0 = 0 by decide]; exact ⟨fun z => absurd z (by decide), fun z => absurd z.1 (by decide)⟩)
        · exact nx (zand 1 0) (Or.inl (by decide)) (by rw [show zand 1 0 = 0 by decide]; exact ⟨fun z => absurd z (by decide), fun z => absurd z.2 d⟩)
