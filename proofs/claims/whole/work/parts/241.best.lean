/-! best -/
def gvL (L : Nat → Int) (x : Nat) (s : Int) : Nat → Int
  | 0 => s
  | p + 1 => if x / 2 ^ p % 2 = 1 ∧ L p ≤ gvL L x s p then gvL L x s p - L p else gvL L x s p
theorem gvL_in {L : Nat → Int} (hL : ∀ p, 0 ≤ L p) (x : Nat) {s : Int} (hs : 0 ≤ s) : ∀ p, 0 ≤ gvL L x s p ∧ gvL L x s p ≤ s := by
  intro p
  induction p with
  | zero => exact ⟨hs, Int.le_refl _⟩
  | succ p ih =>
    have := hL p
    unfold gvL
    split <;> omega
abbrev gvn (L : Nat → Int) (x : Nat) (s : Int) (p : Nat) : Prop := x / 2 ^ p % 2 = 1 ∧ L p ≤ gvL L x s p
def bsV (n : Nat) (Q : Nat → Nat → Int) (s : Int) (x p : Nat) : Int := if gvn (fun j => lackZ (Q j)) x s p then wgG n Q p else wgB n Q p
theorem throughOf4 (N : Nat) {μ ν : mm} (a1 : relO 10 1 μ) (a2 : okR μ 1) (n : Nat) (m : Nat) (hm : (m : Int) = μ 1 0) (hf : ∀ a, a ≠ 43 → a ≠ 48 → a ≠ 49 → ν a = μ a) (hw : ∀ j, j < m → ν 48 j = wgB n (fun i => μ (10 + 2 + i)) j ∧ ν 49 j = wgG n (fun i => μ (10 + 2 + i)) j) (x : Nat) (hx : x < 256) : ∀ (k p : Nat), p ≤ m → m < p + k →
    L4_throughOf_13 N k (x : Int) (gvL (fun j => lackZ (μ (10 + 2 + j))) x (μ 1 2) p) (sumN (bsV n (fun i => μ (10 + 2 + i)) (μ 1 2) x) p) (p : Int) ν = some (sumN (bsV n (fun i => μ (10 + 2 + i)) (μ 1 2) x) m) := by
  have h8 := a2.1
  have hs := a2.2.2.1
  intro k
  induction k with
  | zero => intro p h1 h2; omega
  | succ k ih =>
    intro p h1 h2
    have e10 : ν 10 2 = (m : Int) := by rw [hf 10 (by decide) (by decide) (by decide), a1.1, hm]
    rw [L4_throughOf_13, e10, if_pos (show inR (p : Int) ∧ inR (m : Int) by omega)]
    by_cases c : (m : Int) ≤ (p : Int)
    · rw [if_pos c, show p = m by omega]
    · have hp8 : p < 8 := by omega
      have hq : okP (μ (10 + 2 + p)) := offP a1 a2 (by omega)
      have hl := lackZ_in hq
      have hg := gvL_in (L := fun j => lackZ (μ (10 + 2 + j))) (fun j => lackZ_0 _) x hs.1 p
      have ep : ν (10 + 2 + p) = μ (10 + 2 + p) := hf _ (by omega) (by omega) (by omega)
      have hwp := hw p (by omega)
      have n1 := ih (p + 1) (by omega) (by omega)
      rw [show gvL (fun j => lackZ (μ (10 + 2 + j))) x (μ 1 2) (p + 1) = if gvn (fun j => lackZ (μ (10 + 2 + j))) x (μ 1 2) p then gvL (fun j => lackZ (μ (10 + 2 + j))) x (μ 1 2) p - lackZ (μ (10 + 2 + p)) else gvL (fun j => lackZ (μ (10 + 2 + j))) x (μ 1 2) p from rfl, show sumN (bsV n (fun i => μ (10 + 2 + i)) (μ 1 2) x) (p + 1) = sumN (bsV n (fun i => μ (10 + 2 + i)) (μ 1 2) x) p + (if gvn (fun j => lackZ (μ (10 + 2 + j))) x (μ 1 2) p then wgG n (fun i => μ (10 + 2 + i)) p else wgB n (fun i => μ (10 + 2 + i)) p) from rfl] at n1
      rw [if_neg c, M1_at_eq N 10 p hp8, Option.bind_some, if_pos (kdo (Or.inl rfl) hp8), M2_lacking_eq N _ (by rw [ep]; exact hq), Option.bind_some, ep, if_pos (show inR (x : Int) ∧ 0 ≤ (p : Int) ∧ (p : Int) < 32 by omega)]
      simp only [bitZ_nat, J4_throughOf_59, J4_throughOf_60, J4_throughOf_72, bnd]
      rw [if_pos (show inR ((x / 2 ^ p % 2 : Nat) : Int) by omega), if_pos (show inR (lackZ (μ (10 + 2 + p))) ∧ inR (gvL (fun j => lackZ (μ (10 + 2 + j))) x (μ 1 2) p) by omega)]
      rw [if_pos (show inR (0 : Int) by decide), if_pos trivial, if_pos (show inR (1 : Int) by decide), if_neg (show ¬ (1 : Int) = 0 by decide), weighed0 N hp8, weighed1 N hp8, hwp.1, hwp.2, Option.bind_some, Option.bind_some]
      by_cases g : gvn (fun j => lackZ (μ (10 + 2 + j))) x (μ 1 2) p
      · rw [if_pos g, if_pos g] at n1
        have g2 : lackZ (μ (10 + 2 + p)) ≤ gvL (fun j => lackZ (μ (10 + 2 + j))) x (μ 1 2) p := g.2
        have g1 := g.1
        rw [if_pos (show ((x / 2 ^ p % 2 : Nat) : Int) = 1 by omega), if_neg (by omega)]
        exact n1
      · rw [if_neg g, if_neg g] at n1
        by_cases d : x / 2 ^ p % 2 = 1
        · have g2 : ¬ lackZ (μ (10 + 2 + p)) ≤ gvL (fun j => lackZ (μ (10 + 2 + j))) x (μ 1 2) p := fun z => g ⟨d, z⟩
          rw [if_pos (show ((x / 2 ^ p % 2 : Nat) : Int) = 1 by omega), if_pos (by omega)]
          exact n1
        · rw [if_neg (show ¬ ((x / 2 ^ p % 2 : Nat) : Int) = 1 by omega)]
          exact n1
theorem bsV_in {μ : mm} (a1 : relO 10 1 μ) (a2 : okR μ 1) (n : Nat) (m : Nat) (hm : (m : Int) = μ 1 0) (x : Nat) : 0 ≤ sumN (bsV n (fun i => μ (10 + 2 + i)) (μ 1 2) x) m ∧ sumN (bsV n (fun i => μ (10 + 2 + i)) (μ 1 2) x) m ≤ 7992 := by
  have h8 := a2.1
  have := sumN_999 (f := bsV n (fun i => μ (10 + 2 + i)) (μ 1 2) x) m (fun i hi => by
    have h := wg_in n (Q := fun i => μ (10 + 2 + i)) (p := i) (offP a1 a2 (by omega))
    unfold bsV
    split
    · exact h.2
    · exact h.1)
  omega
theorem best73 (N : Nat) (hN : 200 ≤ N) {μ : mm} (a1 : relO 10 1 μ) (a2 : okR μ 1) (a3 : μ 1 1 ≤ 999) (n : Nat) (hn : n ≤ 100) (m : Nat) (hm : (m : Int) = μ 1 0) (x : Nat) (hx : x < 256) (rec : Int → Int → Int → Int → Int → mm → Option (Int × mm)) (w found best : Int) (hb : inR best) : ∀ (k p : Nat) (issued : Int) (ν : mm), p ≤ m → m < p + k → frB μ ν → okR ν 2 → ν 2 0 = (m : Int) → ν 2 1 = μ 1 1 → ν 2 2 = gvL (fun j => lackZ (μ (10 + 2 + j))) x (μ 1 2) p → (∀ j, j < m → at6 ν 2 j (if j < p ∧ gvn (fun j => lackZ (μ (10 + 2 + j))) x (μ 1 2) j then fu (μ (10 + 2 + j)) 2 (μ (10 + 2 + j) 2 + lackZ (μ (10 + 2 + j))) else μ (10 + 2 + j))) →
    ∃ ν', L5_best_73 N rec k (n : Int) w found best (x : Int) issued (p : Int) ν = (if best < sumN (bsV n (fun i => μ (10 + 2 + i)) (μ 1 2) x) m then rec (n : Int) w (x : Int) (sumN (bsV n (fun i => μ (10 + 2 + i)) (μ 1 2) x) m) ((x : Int) + 1) ν' else rec (n : Int) w found best ((x : Int) + 1) ν') ∧ frB μ ν' := by
  have h8 := a2.1
  have hs := a2.2.2.1
  intro k
  induction k with
  | zero => intro p issued ν h1 h2; omega
  | succ k ih =>
    intro p issued ν h1 h2 hf ok m2 d2 s2 h6
    have e1 := hf 1 (by decide) (by decide) (by decide) (by decide)
    have e10 : ν 1 0 = (m : Int) := by rw [e1, hm]
    rw [L5_best_73, e10, if_pos (show inR (p : Int) ∧ inR (m : Int) by omega)]
    by_cases c : (m : Int) ≤ (p : Int)
    · obtain rfl : p = m := by omega
      have eB := thrB N hN p (by omega) e10 ok m2 (by omega) n hn (Q := fun j => μ (10 + 2 + j)) (fun j hj => by intro k hk; rw [e1]; exact a1.2.2.2.2 j (by omega) k hk) h6
      have eV : sumN (fun j => dayI n (if j < p ∧ gvn (fun j => lackZ (μ (10 + 2 + j))) x (μ 1 2) j then fu (μ (10 + 2 + j)) 2 (μ (10 + 2 + j) 2 + lackZ (μ (10 + 2 + j))) else μ (10 + 2 + j)) 4 - μ (10 + 2 + j) 4) p = sumN (bsV n (fun i => μ (10 + 2 + i)) (μ 1 2) x) p := by
        refine sumN_congr p (fun j hj => ?_)
        unfold bsV
        by_cases g : gvn (fun j => lackZ (μ (10 + 2 + j))) x (μ 1 2) j
        · rw [if_pos ⟨hj, g⟩, if_pos g]
          rfl
        · rw [if_neg (fun z => g z.2), if_neg g]
          unfold wgB thn
          dsimp only
          rw [fu_self]
      have hV := bsV_in a1 a2 n p hm x
      rw [eV] at eB
      rw [if_pos c, eB, Option.bind_some]
      dsimp only
      rw [if_pos (show inR (sumN (bsV n (fun i => μ (10 + 2 + i)) (μ 1 2) x) p) ∧ inR best by omega)]
      simp only [J5_best_140]
      refine ⟨days 2 n ν, rfl, fun a h2 h43 h48 h49 => ?_⟩
      rw [show days 2 n ν a = ν a from funext fun b => days_c h2 n]
      exact hf a h2 h43 h48 h49
    · have hp8 : p < 8 := by omega
      have hq : okP (μ (10 + 2 + p)) := offP a1 a2 (by omega)
      have h6p := h6 p (by omega)
      rw [if_neg (fun z => absurd z.1 (by omega))] at h6p
      have hgp : gvn (fun j => lackZ (μ (10 + 2 + j))) x (μ 1 2) p → lackZ (μ (10 + 2 + p)) ≤ ν 2 2 := fun z => by rw [s2]; exact z.2
      obtain ⟨g1, g2, g3, g4, g5, g6, g7⟩ := sg_ok (c := gvn (fun j => lackZ (μ (10 + 2 + j))) x (μ 1 2) p) hgp ok (by omega) h6p hq
      have hN6 : ∀ j, j < m → at6 (if gvn (fun j => lackZ (μ (10 + 2 + j))) x (μ 1 2) p then isR ν 2 p (lackZ (μ (10 + 2 + p))) else ν) 2 j (if j < p + 1 ∧ gvn (fun j => lackZ (μ (10 + 2 + j))) x (μ 1 2) j then fu (μ (10 + 2 + j)) 2 (μ (10 + 2 + j) 2 + lackZ (μ (10 + 2 + j))) else μ (10 + 2 + j)) := by
        intro j hj
        by_cases e : j = p
        · subst e
          by_cases g : gvn (fun j => lackZ (μ (10 + 2 + j))) x (μ 1 2) j
          · rw [if_pos g] at g6 ⊢
            rw [if_pos ⟨by omega, g⟩]
            rw [if_pos g] at g6
            exact g6
          · rw [if_neg g] at g6 ⊢
            rw [if_neg (fun z => g z.2)]
            rw [if_neg g] at g6
            exact g6
        · have a := g7 j _ e (h6 j hj)
          by_cases g : j < p ∧ gvn (fun j => lackZ (μ (10 + 2 + j))) x (μ 1 2) j
          · rw [if_pos g] at a
            rw [if_pos (show j < p + 1 ∧ _ from ⟨by omega, g.2⟩)]
            exact a
          · rw [if_neg g] at a
            rw [if_neg (show ¬ (j < p + 1 ∧ gvn (fun j => lackZ (μ (10 + 2 + j))) x (μ 1 2) j) from fun z => g ⟨by omega, z.2⟩)]
            exact a
      have go := fun issued' => ih (p + 1) issued' _ (by omega) (by omega) (fun a h2 h43 h48 h49 => (g5 a h2).trans (hf a h2 h43 h48 h49)) g1 (g2.trans m2) (g3.trans d2) (by rw [g4, s2]; rfl) hN6
      rw [if_neg c, M5_has_eq N x p hx hp8, Option.bind_some]
      simp only [J5_best_106, bnd]
      by_cases d : x / 2 ^ p % 2 = 1
      · rw [if_pos d, if_pos (by decide), if_neg (by decide), signs5 N hp8 ok h6p hq]
        by_cases u : lackZ (μ (10 + 2 + p)) ≤ ν 2 2
        · have g : gvn (fun j => lackZ (μ (10 + 2 + j))) x (μ 1 2) p := ⟨d, by rw [← s2]; exact u⟩
          rw [if_pos u, Option.bind_some]
          simp only [if_pos g] at go
          exact go _
        · have g : ¬ gvn (fun j => lackZ (μ (10 + 2 + j))) x (μ 1 2) p := fun z => u (hgp z)
          rw [if_neg u, Option.bind_some]
          simp only [if_neg g] at go
          exact go _
      · have g : ¬ gvn (fun j => lackZ (μ (10 + 2 + j))) x (μ 1 2) p := fun z => d z.1
        rw [if_neg d, if_pos (by decide), if_pos rfl]
        simp only [if_neg g] at go
        exact go _
def bsZ (f : Nat → Int) (w : Int) : Nat → Nat → Int → Int → Int
  | 0, _, most, which => if w = 0 then most else which
  | k + 1, x, most, which => if f x ≤ most then bsZ f w k (x + 1) most which else bsZ f w k (x + 1) (f x) (x : Int)
theorem pow_n {e : Int} (n : Nat) (h : e = (n : Int)) : (1 * 2 ^ e.toNat : Int) = ((2 ^ n : Nat) : Int) := by
  rw [h, Int.toNat_natCast, Int.one_mul, Int.natCast_pow]
  rfl
theorem best42 (N : Nat) {μ ν : mm} (a1 : relO 10 1 μ) (a2 : okR μ 1) (n : Nat) (m : Nat) (hm : (m : Int) = μ 1 0) (hf : ∀ a, a ≠ 43 → a ≠ 48 → a ≠ 49 → ν a = μ a) (hw : ∀ j, j < m → ν 48 j = wgB n (fun i => μ (10 + 2 + i)) j ∧ ν 49 j = wgG n (fun i => μ (10 + 2 + i)) j) (hN : 300 ≤ N) {w : Int} (hwi : inR w) : ∀ (k x : Nat) (most which : Int), x ≤ 2 ^ m → 2 ^ m < x + k → (-9 ≤ most ∧ most ≤ 7992) →
    L4_best_42 N k w most which (x : Int) ν = some (bsZ (fun x => sumN (bsV n (fun i => μ (10 + 2 + i)) (μ 1 2) x) m) w (2 ^ m - x) x most which, ν) := by
  have h8 := a2.1
  have hP : 2 ^ m ≤ 256 := Nat.pow_le_pow_right (n := 2) (by decide) (show m ≤ 8 by omega)
  have e10 : ν 10 2 = (m : Int) := by rw [hf 10 (by decide) (by decide) (by decide), a1.1, hm]
  have eS : ν 10 3 = μ 1 2 := by rw [hf 10 (by decide) (by decide) (by decide), a1.2.1]
  intro k
  induction k with
  | zero => intro x most which h1 h2; omega
  | succ k ih =>
    intro x most which h1 h2 hmo
    rw [L4_best_42, if_pos (show 0 ≤ ν 10 2 ∧ ν 10 2 < 32 by omega), pow_n m e10, if_pos (show inR (x : Int) ∧ inR ((2 ^ m : Nat) : Int) by omega)]
    by_cases c : ((2 ^ m : Nat) : Int) ≤ (x : Int)
    · rw [if_pos c, show 2 ^ m - x = 0 by omega, if_pos hwi, bsZ]
      by_cases d : w = 0
      · rw [if_pos d, if_pos d]
      · rw [if_neg d, if_neg d]
    · have hV := bsV_in a1 a2 n m hm x
      have eT := throughOf4 N a1 a2 n m hm hf hw x (by omega) N 0 (by omega) (by omega)
      rw [if_neg c]
      unfold M4_throughOf
      simp only [bnd, J4_best_79]
      rw [eS]
      rw [show gvL (fun j => lackZ (μ (10 + 2 + j))) x (μ 1 2) 0 = μ 1 2 from rfl, show sumN (bsV n (fun i => μ (10 + 2 + i)) (μ 1 2) x) 0 = 0 from rfl, show ((0 : Nat) : Int) = 0 from rfl] at eT
      rw [eT, Option.bind_some, if_pos (show inR (sumN (bsV n (fun i => μ (10 + 2 + i)) (μ 1 2) x) m) ∧ inR most by omega), show 2 ^ m - x = (2 ^ m - (x + 1)) + 1 by omega, bsZ]
      by_cases g : sumN (bsV n (fun i => μ (10 + 2 + i)) (μ 1 2) x) m ≤ most
      · rw [if_pos g, if_pos g]
        exact ih (x + 1) most which (by omega) (by omega) hmo
      · rw [if_neg g, if_neg g]
        exact ih (x + 1) _ (x : Int) (by omega) (by omega) (by omega)
theorem best43 (N : Nat) (hN : 300 ≤ N) {μ : mm} (a1 : relO 10 1 μ) (a2 : okR μ 1) (a3 : μ 1 1 ≤ 999) (n : Nat) (hn : n ≤ 100) (m : Nat) (hm : (m : Int) = μ 1 0) {w : Int} (hwi : inR w) : ∀ (k x : Nat) (most which : Int) (ν : mm), x ≤ 2 ^ m → 2 ^ m < x + k → (-9 ≤ most ∧ most ≤ 7992) → frB μ ν →
    ∃ ν', L5_best_43 N k (n : Int) w which most (x : Int) ν = some (bsZ (fun x => sumN (bsV n (fun i => μ (10 + 2 + i)) (μ 1 2) x) m) w (2 ^ m - x) x most which, ν') ∧ frB μ ν' := by
  have h8 := a2.1
  have hP : 2 ^ m ≤ 256 := Nat.pow_le_pow_right (n := 2) (by decide) (show m ≤ 8 by omega)
  intro k
  induction k with
  | zero => intro x most which ν h1 h2; omega
  | succ k ih =>
    intro x most which ν h1 h2 hmo hf
    have e1 := hf 1 (by decide) (by decide) (by decide) (by decide)
    have e10 : ν 1 0 = (m : Int) := by rw [e1, hm]
    rw [L5_best_43, if_pos (show 0 ≤ ν 1 0 ∧ ν 1 0 < 32 by omega), pow_n m e10, if_pos (show inR (x : Int) ∧ inR ((2 ^ m : Nat) : Int) by omega)]
    by_cases c : ((2 ^ m : Nat) : Int) ≤ (x : Int)
    · rw [if_pos c, show 2 ^ m - x = 0 by omega, if_pos hwi, bsZ]
      by_cases d : w = 0
      · rw [if_pos d, if_pos d]
        exact ⟨ν, rfl, hf⟩
      · rw [if_neg d, if_neg d]
        exact ⟨ν, rfl, hf⟩
    · have hV := bsV_in a1 a2 n m hm x
      obtain ⟨s1, s2, s3, s4, s5, s6⟩ := cpS a1 a2 e1
      obtain ⟨ν', e', f'⟩ := best73 N (by omega) a1 a2 a3 n hn m hm x (by omega) (L5_best_43 N k) w which most (by omega) N 0 0 (cp 1 2 ν) (by omega) (by omega) (fun a h2 h43 h48 h49 => (cp_row h2).trans (hf a h2 h43 h48 h49)) s1 (by rw [s2, hm]) s3 s4 (fun j hj => by rw [if_neg (fun z => absurd z.1 (by omega))]; exact s6 j (by omega))
      rw [show ((0 : Nat) : Int) = 0 from rfl] at e'
      rw [if_neg c, M5_copies_eq N 1 2 (by omega) (by decide), Option.bind_some, e', show 2 ^ m - x = (2 ^ m - (x + 1)) + 1 by omega, bsZ]
      by_cases g : sumN (bsV n (fun i => μ (10 + 2 + i)) (μ 1 2) x) m ≤ most
      · rw [if_neg (by omega), if_pos g]
        exact ih (x + 1) most which _ (by omega) (by omega) hmo f'
      · rw [if_pos (by omega), if_neg g]
        exact ih (x + 1) _ (x : Int) _ (by omega) (by omega) (by omega) f'
theorem op_best (N : Nat) (hN : 300 ≤ N) {μ : mm} (R : Rel μ) {n w : Int} (hn : inR n) (hw : inR w) : Op (M4_best N n w) (M5_best N n w) μ := by
  obtain ⟨⟨a1, a2, a3⟩, -⟩ := id R
  have hm := a2.1
  have ho := outZ_in n 1 30
  have ht := othZ_in w 1
  by_cases o : outZ n 1 30 = 0
  · have oo := outZ_0 o
    by_cases t : othZ w 1 = 0
    · have tt := othZ_0 t
      obtain ⟨j, rfl⟩ := Int.eq_ofNat_of_zero_le (show 0 ≤ n by omega)
      obtain ⟨m, hmm⟩ := Int.eq_ofNat_of_zero_le hm.1
      obtain ⟨μ1, eW, fW, hW⟩ := weigh4 N (by omega) a1 a2 j (by omega) m hmm.symm N 0 μ (by omega) (by omega) (fun _ _ _ _ => rfl) (fun i hi => by omega)
      have hP : 2 ^ m ≤ 256 := Nat.pow_le_pow_right (n := 2) (by decide) (show m ≤ 8 by omega)
      have hP1 : 1 ≤ 2 ^ m := Nat.one_le_two_pow
      have e4 := best42 N a1 a2 j m hmm.symm fW hW hN hw N 0 (-9) 0 (by omega) (by omega) (by decide)
      obtain ⟨μ2, e5, f5⟩ := best43 N hN a1 a2 a3 j (by omega) m hmm.symm hw N 0 (-1) 0 μ1 (by omega) (by omega) (by decide) (fun a h2 h43 h48 h49 => fW a h43 h48 h49)
      have hV := bsV_in a1 a2 j m hmm.symm 0
      have eZ : bsZ (fun x => sumN (bsV j (fun i => μ (10 + 2 + i)) (μ 1 2) x) m) w (2 ^ m - 0) 0 (-1) 0 = bsZ (fun x => sumN (bsV j (fun i => μ (10 + 2 + i)) (μ 1 2) x) m) w (2 ^ m - 0) 0 (-9) 0 := by
        rw [show 2 ^ m - 0 = (2 ^ m - 1) + 1 by omega, bsZ, bsZ, if_neg (by omega), if_neg (by omega)]
      rw [eZ, show ((0 : Nat) : Int) = 0 from rfl] at e5
      rw [show ((0 : Nat) : Int) = 0 from rfl] at e4 eW
      refine ⟨bsZ (fun x => sumN (bsV j (fun i => μ (10 + 2 + i)) (μ 1 2) x) m) w (2 ^ m - 0) 0 (-9) 0, μ1, μ2, ?_, ?_, Rel_frB R f5⟩
      · simp only [M4_best, M4_weigh]
        rw [M4_outside_eq N hn (by decide) (by decide), Option.bind_some, M4_other_eq N hw (by decide), Option.bind_some, M4_firstOf_eq N ho ht, Option.bind_some, fst0 o t, if_pos (by decide), if_pos rfl, eW, Option.bind_some]
        exact e4
      · simp only [M5_best, J5_best_24]
        rw [M5_wrongBy_eq N hn (by decide) (by decide), Option.bind_some, o, if_pos (by decide), if_pos rfl, M5_isIn_eq N hw (by decide) (by decide), Option.bind_some, if_pos tt, if_pos (by decide), if_neg (by decide), if_pos (by decide), if_pos rfl]
        exact e5
    · obtain ⟨t1, t2⟩ := oth_no t
      refine Op_ref N R (c := -2) (by decide) ?_ (fun ν _ => ?_)
      · simp only [M4_best]
        rw [M4_outside_eq N hn (by decide) (by decide), Option.bind_some, M4_other_eq N hw (by decide), Option.bind_some, M4_firstOf_eq N ho ht, Option.bind_some, fst2 o t, t1, if_pos (by decide), if_neg (by decide), rf4 N (by decide)]
      · simp only [M5_best, J5_best_24]
        rw [M5_wrongBy_eq N hn (by decide) (by decide), Option.bind_some, o, if_pos (by decide), if_pos rfl, M5_isIn_eq N hw (by decide) (by decide), Option.bind_some, if_neg t2, if_pos (by decide), if_pos rfl, if_pos (by decide), if_neg (by decide), rf5 N (by decide)]
  · refine Op_ref N R (c := outZ n 1 30) (by omega) ?_ (fun ν _ => ?_)
    · simp only [M4_best]
      rw [M4_outside_eq N hn (by decide) (by decide), Option.bind_some, M4_other_eq N hw (by decide), Option.bind_some, M4_firstOf_eq N ho ht, Option.bind_some, fst1 o, if_pos (show inR (outZ n 1 30) by omega), if_neg o, rf4 N ho]
    · simp only [M5_best, J5_best_24]
      rw [M5_wrongBy_eq N hn (by decide) (by decide), Option.bind_some, if_pos (show inR (outZ n 1 30) by omega), if_neg o, if_pos (show inR (outZ n 1 30) by omega), if_neg o, rf5 N ho]
