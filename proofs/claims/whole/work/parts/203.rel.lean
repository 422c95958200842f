/-! class and reference side by side: office o tells what row r tells -/
def relO (o r : Nat) (μ : mm) : Prop := μ o 2 = μ r 0 ∧ μ o 3 = μ r 2 ∧ μ o 4 = μ r 3 ∧ μ o 5 = μ r 1 ∧ ∀ p : Nat, (p : Int) < μ r 0 → at6 μ r p (μ (o + 2 + p))
def relT (μ : mm) : Prop := μ 44 1 = μ 0 8 ∧ (0 ≤ μ 0 8 ∧ μ 0 8 ≤ 96) ∧ ∀ j : Nat, (j : Int) < μ 0 8 → μ 45 j = μ 5 j ∧ 0 ≤ μ 5 j ∧ μ 5 j ≤ 255
def relW (μ : mm) : Prop := μ 9 9 = μ 0 9 ∧ (0 ≤ μ 0 9 ∧ μ 0 9 ≤ 16) ∧ ∀ j : Nat, (j : Int) < μ 0 9 → μ 46 j = μ 6 j ∧ 0 ≤ μ 6 j ∧ μ 6 j ≤ 99
def relF (μ : mm) : Prop := ∀ j : Nat, 1 ≤ j → j ≤ 6 → μ 47 j = μ 7 j
def relI (μ : mm) : Prop := μ 9 10 = μ 0 4 ∧ (μ 0 4 = 0 ∨ (μ 0 4 = 1 ∧ relO 32 3 μ ∧ okR μ 3 ∧ μ 3 1 ≤ 999))
def relN (μ : mm) : Prop := ∀ k, k < 6 → μ 20 k = 0 ∧ μ 31 k = 0 ∧ μ 42 k = 0
def Rel (μ : mm) : Prop := (relO 10 1 μ ∧ okR μ 1 ∧ μ 1 1 ≤ 999) ∧ relI μ ∧ relT μ ∧ relW μ ∧ relF μ ∧ relN μ
/-- one call of both: the answers are one, and they tell the same behind it -/
def Op (f g : mm → Option (Int × mm)) (μ : mm) : Prop := ∃ (r : Int) (μ1 μ2 : mm), f μ = some (r, μ1) ∧ g μ1 = some (r, μ2) ∧ Rel μ2
theorem relO_congr {o r : Nat} {μ ν : mm} (h : relO o r μ) (ho : ν o = μ o) (hr : ν r = μ r) (hp : ∀ p, p < 8 → ν (o + 2 + p) = μ (o + 2 + p)) (hm : μ r 0 ≤ 8) : relO o r ν := by
  obtain ⟨h1, h2, h3, h4, h5⟩ := h
  refine ⟨by rw [ho, hr]; exact h1, by rw [ho, hr]; exact h2, by rw [ho, hr]; exact h3, by rw [ho, hr]; exact h4, fun p hpm => ?_⟩
  rw [hr] at hpm
  intro k hk
  rw [hr, hp p (by omega)]
  exact h5 p hpm k hk
theorem okR_congr {r : Nat} {μ ν : mm} (h : okR μ r) (hr : ν r = μ r) : okR ν r := by
  unfold okR pq at h ⊢
  rw [hr]
  exact h
/-- cells that only scratch work uses: the reference's m, was, numbers; the class's mind, trial, its two rows -/
def scr (a : Nat) : Bool := a == 2 || a == 4 || a == 8 || a == 21 || a == 22 || (23 ≤ a && a ≤ 30) || a == 43 || a == 48 || a == 49
theorem Rel_scr {μ ν : mm} (h : Rel μ) (hc : ∀ a, scr a = false → a ≠ 0 → ν a = μ a) (h0 : ∀ j, j ≠ 10 → j ≠ 12 → ν 0 j = μ 0 j) : Rel ν := by
  obtain ⟨⟨a1, a2, a3⟩, ⟨b1, b2⟩, ⟨c1, c2, c3⟩, ⟨d1, d2, d3⟩, e, f⟩ := h
  have k1 : ν 1 = μ 1 := hc 1 (by decide) (by decide)
  have k3 : ν 3 = μ 3 := hc 3 (by decide) (by decide)
  have k5 : ν 5 = μ 5 := hc 5 (by decide) (by decide)
  have k6 : ν 6 = μ 6 := hc 6 (by decide) (by decide)
  have k7 : ν 7 = μ 7 := hc 7 (by decide) (by decide)
  have k9 : ν 9 = μ 9 := hc 9 (by decide) (by decide)
  have k44 : ν 44 = μ 44 := hc 44 (by decide) (by decide)
  have k45 : ν 45 = μ 45 := hc 45 (by decide) (by decide)
  have k46 : ν 46 = μ 46 := hc 46 (by decide) (by decide)
  have k47 : ν 47 = μ 47 := hc 47 (by decide) (by decide)
  have hpn : ∀ p, p < 8 → ν (10 + 2 + p) = μ (10 + 2 + p) := fun p hp => hc _ (by revert p; decide) (by omega)
  have hpi : ∀ p, p < 8 → ν (32 + 2 + p) = μ (32 + 2 + p) := fun p hp => hc _ (by revert p; decide) (by omega)
  refine ⟨⟨relO_congr a1 (hc 10 (by decide) (by decide)) k1 hpn a2.1.2, okR_congr a2 k1, by rw [k1]; exact a3⟩, ⟨by rw [k9, h0 4 (by decide) (by decide)]; exact b1, ?_⟩, ⟨by rw [k44, h0 8 (by decide) (by decide)]; exact c1, by rw [h0 8 (by decide) (by decide)]; exact c2, fun j hj => ?_⟩, ⟨by rw [k9, h0 9 (by decide) (by decide)]; exact d1, by rw [h0 9 (by decide) (by decide)]; exact d2, fun j hj => ?_⟩, fun j h1 h6 => ?_, fun k hk => ?_⟩
  · rw [h0 4 (by decide) (by decide)]
    rcases b2 with b | ⟨b, b3, b4, b5⟩
    · exact Or.inl b
    · exact Or.inr ⟨b, relO_congr b3 (hc 32 (by decide) (by decide)) k3 hpi b4.1.2, okR_congr b4 k3, by rw [k3]; exact b5⟩
  · rw [h0 8 (by decide) (by decide)] at hj
    rw [k45, k5]
    exact c3 j hj
  · rw [h0 9 (by decide) (by decide)] at hj
    rw [k46, k6]
    exact d3 j hj
  · rw [k47, k7]
    exact e j h1 h6
  · rw [hc 20 (by decide) (by decide), hc 31 (by decide) (by decide), hc 42 (by decide) (by decide)]
    exact f k hk
/-! leaves -/
def outZ (v a b : Int) : Int := if v < a then -4 else if b < v then -6 else 0
def othZ (w l : Int) : Int := if 0 ≤ w ∧ w ≤ l then 0 else -2
def unkZ (μ : mm) (p : Int) : Int := if 0 ≤ p ∧ p < μ 1 0 then 0 else -1
def fstZ (a b c : Int) : Int := if a = 0 then (if b = 0 then c else b) else a
theorem outZ_in (v a b : Int) : -6 ≤ outZ v a b ∧ outZ v a b ≤ 0 := by unfold outZ; repeat' split
                                                                       all_goals omega
theorem othZ_in (w l : Int) : -6 ≤ othZ w l ∧ othZ w l ≤ 0 := by unfold othZ; split <;> omega
theorem unkZ_in (μ : mm) (p : Int) : -6 ≤ unkZ μ p ∧ unkZ μ p ≤ 0 := by unfold unkZ; split <;> omega
theorem outZ_0 {v a b : Int} (h : outZ v a b = 0) : a ≤ v ∧ v ≤ b := by
  unfold outZ at h
  split at h
  · omega
  · split at h <;> omega
theorem othZ_0 {w l : Int} (h : othZ w l = 0) : 0 ≤ w ∧ w ≤ l := by
  unfold othZ at h
  split at h <;> omega
theorem unkZ_0 {μ : mm} {p : Int} (h : unkZ μ p = 0) : 0 ≤ p ∧ p < μ 1 0 := by
  unfold unkZ at h
  split at h <;> omega
theorem fstZ_in {a b c : Int} (ha : -6 ≤ a ∧ a ≤ 0) (hb : -6 ≤ b ∧ b ≤ 0) (hc : -6 ≤ c ∧ c ≤ 0) : -6 ≤ fstZ a b c ∧ fstZ a b c ≤ 0 := by
  unfold fstZ
  repeat' split
  all_goals omega
theorem M4_outside_eq (N : Nat) {v a b : Int} (hv : inR v) (ha : inR a) (hb : inR b) (μ : mm) : M4_outside N v a b μ = some (outZ v a b) := by
  unfold M4_outside outZ
  rw [if_pos (show inR v ∧ inR a from ⟨hv, ha⟩), if_pos (show inR v ∧ inR b from ⟨hv, hb⟩)]
  repeat' split
  all_goals first | rfl | omega
theorem M5_wrongBy_eq (N : Nat) {v a b : Int} (hv : inR v) (ha : inR a) (hb : inR b) (μ : mm) : M5_wrongBy N v a b μ = some (outZ v a b) := by
  unfold M5_wrongBy outZ
  rw [if_pos (show inR v ∧ inR a from ⟨hv, ha⟩), if_pos (show inR v ∧ inR b from ⟨hv, hb⟩)]
  repeat' split
  all_goals first | rfl | omega
theorem M5_isIn_eq (N : Nat) {v a b : Int} (hv : inR v) (ha : inR a) (hb : inR b) (μ : mm) : M5_isIn N v a b μ = some (if a ≤ v ∧ v ≤ b then 1 else 0) := by
  unfold M5_isIn
  rw [if_pos (show inR v ∧ inR a from ⟨hv, ha⟩), if_pos (show inR v ∧ inR b from ⟨hv, hb⟩)]
  repeat' split
  all_goals first | rfl | omega
theorem M4_other_eq (N : Nat) {w l : Int} (hw : inR w) (hl : inR l) (μ : mm) : M4_other N w l μ = some (othZ w l) := by
  unfold M4_other othZ
  rw [if_pos (show inR w from hw), if_pos (show inR w ∧ inR l from ⟨hw, hl⟩)]
  repeat' split
  all_goals first | rfl | omega
theorem M4_firstOf_eq (N : Nat) {a b c : Int} (ha : -6 ≤ a ∧ a ≤ 0) (hb : -6 ≤ b ∧ b ≤ 0) (μ : mm) : M4_firstOf N a b c μ = some (fstZ a b c) := by
  unfold M4_firstOf fstZ
  rw [if_pos (show inR a from by omega), if_pos (show inR b from by omega)]
  repeat' split
  all_goals rfl
theorem M1_knows_eq (N o : Nat) {p : Int} {μ : mm} (hp : inR p) (hm : 0 ≤ μ o 2 ∧ μ o 2 ≤ 8) : M1_knows N o p μ = some (if 0 ≤ p ∧ p < μ o 2 then 1 else 0) := by
  unfold M1_knows
  rw [if_pos hp, if_pos (show inR p ∧ inR (μ o 2) from by omega)]
  repeat' split
  all_goals first | rfl | omega
theorem M1_at_eq (N o p : Nat) (hp : p < 8) (μ : mm) : M1_at N o (p : Int) μ = some (o + 2 + p) := by
  unfold M1_at
  rw [if_pos (by omega), if_neg (by omega), if_pos (by omega), if_neg (by omega), if_pos (by omega)]
  rw [show (o + 1) + 1 + ((p : Int)).toNat = o + 2 + p by omega]
theorem M4_unknown_eq (N : Nat) {p : Int} {μ : mm} (hp : inR p) (h : relO 10 1 μ) (hk : okR μ 1) : M4_unknown N p μ = some (unkZ μ p) := by
  have hm := hk.1
  have e := h.1
  unfold M4_unknown unkZ
  rw [M1_knows_eq N 10 hp (by rw [e]; exact hm), e, Option.bind_some]
  by_cases c : 0 ≤ p ∧ p < μ 1 0
  · rw [if_pos c, if_pos c, if_pos (by decide), if_neg (by decide)]
  · rw [if_neg c, if_neg c, if_pos (by decide), if_pos rfl]
theorem M5_isOne_eq (N : Nat) {p : Int} {μ : mm} (hp : inR p) (hk : okR μ 1) : M5_isOne N p μ = some (if 0 ≤ p ∧ p < μ 1 0 then 1 else 0) := by
  have hm := hk.1
  unfold M5_isOne
  rw [M5_isIn_eq N hp (by decide) (by omega), Option.bind_some]
  by_cases c : 0 ≤ p ∧ p < μ 1 0
  · have c' : 0 ≤ p ∧ p ≤ μ 1 0 - 1 := by omega
    rw [if_pos c', if_pos c, if_pos (by decide)]
  · have c' : ¬ (0 ≤ p ∧ p ≤ μ 1 0 - 1) := by omega
    rw [if_neg c', if_neg c, if_pos (by decide)]
def r4 (c : Int) (μ : mm) : mm := mu μ 47 (-c).toNat (μ 47 (-c).toNat + 1)
def r5 (c : Int) (μ : mm) : mm := mu μ 7 (-c).toNat (μ 7 (-c).toNat + 1)
theorem M4_refused_eq (N : Nat) {c : Int} (hc : -6 ≤ c ∧ c ≤ 0) (μ : mm) : M4_refused N c μ = some (c, r4 c μ) := by
  simp only [M4_refused, bnd]
  rw [if_pos (by omega), if_neg (by omega), if_pos (by omega), if_neg (by omega), if_pos (by omega), if_pos (by omega)]
  rfl
theorem M5_no_eq (N : Nat) {c : Int} (hc : -6 ≤ c ∧ c ≤ 0) (μ : mm) : M5_no N c μ = some (c, r5 c μ) := by
  simp only [M5_no, bnd]
  rw [if_pos (by omega), if_pos (by omega)]
  rfl
theorem Rel_ref {μ : mm} (R : Rel μ) {c : Int} (hc : -6 ≤ c ∧ c ≤ -1) : Rel (r5 c (r4 c μ)) := by
  obtain ⟨⟨a1, a2, a3⟩, ⟨b1, b2⟩, c1, d1, e, f⟩ := R
  have h : ∀ a, a ≠ 7 → a ≠ 47 → r5 c (r4 c μ) a = μ a := by
    intro a h7 h47
    funext b
    unfold r5 r4
    rw [mu_c h7, mu_c h47]
  have hpn : ∀ p, p < 8 → r5 c (r4 c μ) (10 + 2 + p) = μ (10 + 2 + p) := fun p hp => h _ (by omega) (by omega)
  have hpi : ∀ p, p < 8 → r5 c (r4 c μ) (32 + 2 + p) = μ (32 + 2 + p) := fun p hp => h _ (by omega) (by omega)
  refine ⟨⟨relO_congr a1 (h 10 (by decide) (by decide)) (h 1 (by decide) (by decide)) hpn a2.1.2, okR_congr a2 (h 1 (by decide) (by decide)), by rw [h 1 (by decide) (by decide)]; exact a3⟩, ⟨by rw [h 9 (by decide) (by decide), h 0 (by decide) (by decide)]; exact b1, ?_⟩, ?_, ?_, ?_, ?_⟩
  · rw [h 0 (by decide) (by decide)]
    rcases b2 with b | ⟨b, b3, b4, b5⟩
    · exact Or.inl b
    · exact Or.inr ⟨b, relO_congr b3 (h 32 (by decide) (by decide)) (h 3 (by decide) (by decide)) hpi b4.1.2, okR_congr b4 (h 3 (by decide) (by decide)), by rw [h 3 (by decide) (by decide)]; exact b5⟩
  · unfold relT at c1 ⊢
    rw [h 44 (by decide) (by decide), h 0 (by decide) (by decide), h 45 (by decide) (by decide), h 5 (by decide) (by decide)]
    exact c1
  · unfold relW at d1 ⊢
    rw [h 9 (by decide) (by decide), h 0 (by decide) (by decide), h 46 (by decide) (by decide), h 6 (by decide) (by decide)]
    exact d1
  · intro j h1 h6
    have ej := e j h1 h6
    have ec := e (-c).toNat (by omega) (by omega)
    unfold r5 r4
    by_cases q : j = (-c).toNat
    · subst q
      rw [mu_s, mu_c (by decide), mu_s, mu_c (by decide), ec]
    · rw [mu_c (by decide), mu_j q, mu_j q, mu_c (by decide)]
      exact ej
  · unfold relN at f ⊢
    rw [h 20 (by decide) (by decide), h 31 (by decide) (by decide), h 42 (by decide) (by decide)]
    exact f
theorem Op_ref (N : Nat) {μ : mm} (R : Rel μ) {c : Int} (hc : -6 ≤ c ∧ c ≤ -1) {f g : mm → Option (Int × mm)} (hf : f μ = M4_refused N c μ) (hg : ∀ ν, ν = r4 c μ → g ν = M5_no N c ν) : Op f g μ :=
  ⟨c, r4 c μ, r5 c (r4 c μ), by rw [hf]; exact M4_refused_eq N (by omega) μ, by rw [hg _ rfl]; exact M5_no_eq N (by omega) _, Rel_ref R hc⟩
