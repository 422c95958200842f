/-! lots -/
def nxS (s : Int) : Int := s * 1664525 + 1013904223
def drS (s : Int) : Int := nxS s % 2147483648 / 256 % 30
theorem drS_in (s : Int) : 0 ≤ drS s ∧ drS s ≤ 29 := by unfold drS; omega
theorem hasC_X {o r p : Nat} {ξ ν : mm} (v : Int) (h : relX o r ξ ν) : relX o r (mu ξ (o + 2 + p) 2 v) (mu ν r (4 + 6 * p + 2) v) := by
  obtain ⟨h1, h2, h3, h4, h5⟩ := h
  refine ⟨by rw [mu_c (by omega), mu_j (by omega)]; exact h1, by rw [mu_c (by omega), mu_j (by omega)]; exact h2, by rw [mu_c (by omega), mu_j (by omega)]; exact h3, by rw [mu_c (by omega), mu_j (by omega)]; exact h4, fun p' hp' k hk => ?_⟩
  rw [mu_j (by omega)] at hp'
  have a := h5 p' hp' k hk
  unfold mu
  by_cases c : p' = p ∧ k = 2
  · obtain ⟨rfl, rfl⟩ := c
    rw [if_pos ⟨rfl, rfl⟩, if_pos ⟨rfl, rfl⟩]
  · rw [if_neg (by omega), if_neg (by omega)]
    exact a
theorem okR_hasR {ν : mm} {r p : Nat} {v : Int} (ok : okR ν r) (hv : 0 ≤ v ∧ v ≤ 99) : okR (mu ν r (4 + 6 * p + 2) v) r := by
  obtain ⟨o1, o2, o3, o4, o5⟩ := ok
  refine ⟨by rw [mu_j (by omega)]; exact o1, by rw [mu_j (by omega)]; exact o2, by rw [mu_j (by omega)]; exact o3, by rw [mu_j (by omega)]; exact o4, fun p' hp' => ?_⟩
  rw [mu_j (by omega)] at hp'
  have hq := o5 p' hp'
  by_cases c : p' = p
  · subst c
    refine okP_congr (okP_has hq hv) (fun k hk => ?_)
    unfold pq fu mu
    by_cases d : k = 2
    · subst d
      rw [if_pos ⟨rfl, rfl⟩, if_pos rfl]
    · rw [if_neg (by omega), if_neg d]
  · exact okP_congr hq (fun k hk => by unfold pq; rw [mu_j (by omega)])
theorem okO_hasC {ξ : mm} {p : Nat} {v : Int} (ok : okO ξ 21) (hv : 0 ≤ v ∧ v ≤ 99) : okO (mu ξ (21 + 2 + p) 2 v) 21 := by
  obtain ⟨o1, o2, o3⟩ := ok
  refine ⟨by rw [mu_c (by omega)]; exact o1, by rw [mu_c (by omega)]; exact o2, fun p' hp' => ?_⟩
  rw [mu_c (by omega)] at hp'
  have hq := o3 p' hp'
  by_cases c : p' = p
  · subst c
    refine okP_congr (okP_has hq hv) (fun k hk => ?_)
    unfold fu mu
    by_cases d : k = 2
    · subst d
      rw [if_pos ⟨rfl, rfl⟩, if_pos rfl]
    · rw [if_neg (fun z => d z.2), if_neg d]
  · rw [mu_row (by omega)]
    exact hq
theorem lots_in (N : Nat) (hN : 200 ≤ N) {μ : mm} (a1 : relO 10 1 μ) (a2 : okR μ 1) (rec4 : Int → Int → Int → Int → Int → mm → Option (Int × mm)) (n sp : Int) {w : Int} (hw : inR w) : ∀ (k p : Nat) (s sum : Int) (ξ : mm), (p : Int) ≤ ξ 21 2 → ξ 21 2 < (p : Int) + k → ξ 21 2 = μ 1 0 → okO ξ 21 → (∀ a, a ≠ 21 → (a < 23 ∨ 31 ≤ a) → ξ a = μ a) →
    ∃ (s' D : Int) (ξ' : mm), L4_lots_59 N rec4 k n w s sum sp (p : Int) ξ = rec4 n w s' (sum + D) (sp + 1) ξ' ∧ (∀ a, a ≠ 21 → (a < 23 ∨ 31 ≤ a) → ξ' a = μ a) ∧
      ∀ (ν : mm) (rec : Int → Int → Int → Int → mm → Option (Int × mm)) (sum' : Int), relX 21 2 ξ ν → okR ν 2 → ν 1 = μ 1 → ν 0 12 = s → ν 2 1 ≤ 2000 → ∃ ν', L5_lots_72 N rec k n w sum' sp (p : Int) ν = rec n w (sum' + D) (sp + 1) ν' ∧ (∀ a, a ≠ 0 → a ≠ 2 → ν' a = ν a) ∧ (∀ j, j ≠ 12 → ν' 0 j = ν 0 j) ∧ ν' 0 12 = s' := by
  have h1m := a2.1
  intro k
  induction k with
  | zero => intro p s sum ξ h1 h2; omega
  | succ k ih =>
    intro p s sum ξ h1 h2 hpe ok hf
    have hm := ok.1
    by_cases c : ξ 21 2 ≤ (p : Int)
    · have okd := dysO_ok ok 20
      have e10 : ∀ a, a ≠ 21 → (a < 23 ∨ 31 ≤ a) → dysO 21 20 ξ a = μ a := fun a h1 h2 => (dysO_c ok h1 (by omega) 20).trans (hf a h1 h2)
      have dg := M1_daysGoBy_eq N (o := 21) (Or.inr (Or.inl rfl)) (by omega) ok 20 (by omega) (by omega)
      rw [show ((20 : Nat) : Int) = 20 from rfl] at dg
      have m10 : 0 ≤ dysO 21 20 ξ 10 2 ∧ dysO 21 20 ξ 10 2 ≤ 8 := by
        rw [e10 10 (by decide) (by omega), a1.1]
        exact h1m
      have x10 : ∀ j, j < 6 → sumN (fun p => dysO 21 20 ξ (10 + 2 + p) j) (dysO 21 20 ξ 10 2).toNat = sumN (fun p => μ 1 (4 + 6 * p + j)) (μ 1 0).toNat := by
        intro j hj
        rw [← sum_one a1 j hj, e10 10 (by decide) (by omega)]
        refine sumN_congr _ (fun i hi => ?_)
        rw [e10 (10 + 2 + i) (by have := a1.1; omega) (by have := a1.1; omega)]
      have g5 : ∀ (ν : mm) (rec : Int → Int → Int → Int → mm → Option (Int × mm)) (sum' : Int), relX 21 2 ξ ν → okR ν 2 → ν 1 = μ 1 → ν 2 1 ≤ 2000 → L5_lots_72 N rec (k + 1) n w sum' sp (p : Int) ν = rec n w (sum' + (if w = 0 then sumN (fun p => dysO 21 20 ξ (21 + 2 + p) 4) (dysO 21 20 ξ 21 2).toNat - sumN (fun p => μ 1 (4 + 6 * p + 4)) (μ 1 0).toNat else sumN (fun p => dysO 21 20 ξ (21 + 2 + p) 5) (dysO 21 20 ξ 21 2).toNat - sumN (fun p => μ 1 (4 + 6 * p + 5)) (μ 1 0).toNat)) (sp + 1) (days 2 20 ν) := by
        intro ν rec sum' X okν r1 hd
        have okd2 := days_ok okν 20 (by omega)
        have X20 := relX_days X okν 20 (by omega)
        have r1' : days 2 20 ν 1 = μ 1 := (funext fun b => days_c (by decide) 20).trans r1
        have ok1 : okR (days 2 20 ν) 1 := okR_congr a2 r1'
        have do5 := M5_daysOn_eq N 2 (by omega) okν 20 (by omega) (by omega)
        rw [show ((20 : Nat) : Int) = 20 from rfl] at do5
        have b4 := M5_allOf_eq N 2 4 (by decide) (by omega) (μ := days 2 20 ν) okd2.1
        have b5 := M5_allOf_eq N 2 5 (by decide) (by omega) (μ := days 2 20 ν) okd2.1
        have c4 := M5_allOf_eq N 1 4 (by decide) (by omega) (μ := days 2 20 ν) ok1.1
        have c5 := M5_allOf_eq N 1 5 (by decide) (by omega) (μ := days 2 20 ν) ok1.1
        rw [show ((4 : Nat) : Int) = 4 from rfl] at b4 c4
        rw [show ((5 : Nat) : Int) = 5 from rfl] at b5 c5
        rw [← relX_sum X20 4 (by decide)] at b4
        rw [← relX_sum X20 5 (by decide)] at b5
        rw [r1'] at c4 c5
        rw [L5_lots_72, r1, if_pos (show inR (p : Int) ∧ inR (μ 1 0) by omega), if_pos (show μ 1 0 ≤ (p : Int) by omega), do5, Option.bind_some, if_pos hw]
        simp only [J5_lots_130, J5_lots_146, bnd]
        by_cases w0 : w = 0
        · rw [if_pos w0, if_pos w0, b4, Option.bind_some, if_pos hw, if_pos w0, c4, Option.bind_some]
        · rw [if_neg w0, if_neg w0, b5, Option.bind_some, if_pos hw, if_neg w0, c5, Option.bind_some]
      refine ⟨s, if w = 0 then sumN (fun p => dysO 21 20 ξ (21 + 2 + p) 4) (dysO 21 20 ξ 21 2).toNat - sumN (fun p => μ 1 (4 + 6 * p + 4)) (μ 1 0).toNat else sumN (fun p => dysO 21 20 ξ (21 + 2 + p) 5) (dysO 21 20 ξ 21 2).toNat - sumN (fun p => μ 1 (4 + 6 * p + 5)) (μ 1 0).toNat, dysO 21 20 ξ, ?_, e10, fun ν rec sum' X okν r1 hs hd => ⟨days 2 20 ν, g5 ν rec sum' X okν r1 hd, fun a h0 h2 => funext fun b => days_c h2 20, fun j _ => days_c (by decide) 20, (days_c (by decide) 20).trans hs⟩⟩
      rw [L4_lots_59, if_pos (show inR (p : Int) ∧ inR (ξ 21 2) by omega), if_pos c, dg, Option.bind_some, if_pos hw]
      simp only [J4_lots_159, bnd]
      by_cases w0 : w = 0
      · rw [if_pos w0, if_pos w0, M1_allThrough_eq N (Or.inr (Or.inl rfl)) (by omega) okd.1, Option.bind_some, M1_allThrough_eq N (Or.inl rfl) (by omega) m10, Option.bind_some, x10 4 (by decide)]
      · rw [if_neg w0, if_neg w0, M1_allShort_eq N (Or.inr (Or.inl rfl)) (by omega) okd.1, Option.bind_some, M1_allShort_eq N (Or.inl rfl) (by omega) m10, Option.bind_some, x10 5 (by decide)]
    · have hp8 : p < 8 := by omega
      have hd := drS_in s
      obtain ⟨s', D, ξ', e, f, G⟩ := ih (p + 1) (nxS s) sum (mu ξ (21 + 2 + p) 2 (drS s)) (by rw [mu_c (by omega)]; omega) (by rw [mu_c (by omega)]; omega) (by rw [mu_c (by omega)]; exact hpe) (okO_hasC ok (by omega)) (fun a h1 h2 => by rw [mu_row (by omega), hf a h1 h2])
      refine ⟨s', D, ξ', ?_, f, fun ν rec sum' X okν r1 hs hdy => ?_⟩
      · rw [L4_lots_59, if_pos (show inR (p : Int) ∧ inR (ξ 21 2) by omega), if_neg c]
        simp only [bnd]
        rw [M1_at_eq N 21 p hp8, Option.bind_some, if_pos (kdO (Or.inr (Or.inl rfl)) hp8), if_pos (show 0 ≤ ((s * 1664525) + 1013904223) % 2147483648 ∧ inR (((s * 1664525) + 1013904223) % 2147483648) by omega), if_pos (show 0 ≤ (((s * 1664525) + 1013904223) % 2147483648) / 256 ∧ inR ((((s * 1664525) + 1013904223) % 2147483648) / 256) by omega)]
        exact e
      · have e2r : ∀ b, mu ν 0 12 (nxS s) 2 b = ν 2 b := fun b => mu_c (by decide)
        have X1 : relX 21 2 ξ (mu ν 0 12 (nxS s)) := relX_congr X okν.1.2 rfl (fun _ _ => rfl) (fun j _ => e2r j)
        have okν1 : okR (mu ν 0 12 (nxS s)) 2 := okR_row okν (fun j _ => e2r j)
        obtain ⟨ν', e', f', g', h'⟩ := G (mu (mu ν 0 12 (nxS s)) 2 (4 + 6 * p + 2) (drS s)) rec sum' (hasC_X (drS s) X1) (okR_hasR okν1 (by omega)) (by rw [mu_row (by decide), mu_row (by decide), r1]) (by rw [mu_c (by decide), mu_s]) (by rw [mu_j (by omega), e2r]; exact hdy)
        refine ⟨ν', ?_, fun a h0 h2 => by rw [f' a h0 h2, mu_row h2, mu_row h0], fun j hj => by rw [g' j hj, mu_c (by decide), mu_j hj], h'⟩
        have eD : M5_drawn N 30 ν = some (drS s, mu ν 0 12 (nxS s)) := by
          simp only [M5_drawn, bnd, mu_s, hs]
          rw [if_pos (show 0 ≤ ((s * 1664525) + 1013904223) % 2147483648 ∧ inR (((s * 1664525) + 1013904223) % 2147483648) by omega), if_pos (show 0 ≤ (((s * 1664525) + 1013904223) % 2147483648) / 256 ∧ (0 : Int) < 30 ∧ inR ((((s * 1664525) + 1013904223) % 2147483648) / 256) ∧ inR 30 by omega)]
          rfl
        rw [L5_lots_72, r1, if_pos (show inR (p : Int) ∧ inR (μ 1 0) by omega), if_neg (show ¬ μ 1 0 ≤ (p : Int) by omega), eD, Option.bind_some]
        simp only [bnd]
        rw [if_pos (ixg hp8 (by decide)), ix2]
        exact e'
theorem lots_loop (N : Nat) (hN : 200 ≤ N) {μ : mm} (a1 : relO 10 1 μ) (a2 : okR μ 1) (a3 : μ 1 1 ≤ 999) (n : Nat) (hn : n ≤ 20) {w : Int} (hw : inR w) : ∀ (k i : Nat) (s sum : Int) (ξ : mm), i ≤ n → n < i + k → (∀ a, a ≠ 21 → (a < 23 ∨ 31 ≤ a) → ξ a = μ a) →
    ∃ (r : Int) (ξ' : mm), L4_lots_39 N k (n : Int) w s sum (i : Int) ξ = some (r, ξ') ∧ (∀ a, a ≠ 21 → (a < 23 ∨ 31 ≤ a) → ξ' a = μ a) ∧
      ∀ ν : mm, ν 1 = μ 1 → ν 0 12 = s → ∃ ν', L5_lots_52 N k (n : Int) w sum (i : Int) ν = some (r, ν') ∧ (∀ a, a ≠ 0 → a ≠ 2 → ν' a = ν a) ∧ (∀ j, j ≠ 12 → ν' 0 j = ν 0 j) := by
  have h1m := a2.1
  intro k
  induction k with
  | zero => intro i s sum ξ h1 h2; omega
  | succ k ih =>
    intro i s sum ξ h1 h2 hf
    by_cases c : (n : Int) ≤ (i : Int)
    · refine ⟨sum, ξ, ?_, hf, fun ν _ _ => ⟨ν, ?_, fun _ _ _ => rfl, fun _ _ => rfl⟩⟩
      · rw [L4_lots_39, if_pos (show inR (i : Int) ∧ inR (n : Int) by omega), if_pos c]
      · rw [L5_lots_52, if_pos (show inR (i : Int) ∧ inR (n : Int) by omega), if_pos c]
    · have b1 : relO 10 1 ξ := relO_congr a1 (hf 10 (by decide) (by omega)) (hf 1 (by decide) (by omega)) (fun p hp => hf _ (by omega) (by omega)) h1m.2
      have b2 : okR ξ 1 := okR_congr a2 (hf 1 (by decide) (by omega))
      have b3 : ξ 1 1 ≤ 999 := by rw [hf 1 (by decide) (by omega)]; exact a3
      have fm : ∀ a, a ≠ 21 → (a < 23 ∨ 31 ≤ a) → mindT ξ a = μ a := fun a h1 h2 => (mindT_c b1 b2 h1 h2).trans (hf a h1 h2)
      have em : mindT ξ 21 2 = μ 1 0 := by rw [(mindT_X b1 b2).1, hf 1 (by decide) (by omega)]
      have okm := (mind_days b1 b2 b3 (μ' := ξ) rfl 0 (by omega)).2.2
      obtain ⟨s', D, ξ1, e, f, G⟩ := lots_in N hN a1 a2 (L4_lots_39 N k) (n : Int) (i : Int) hw N 0 s sum (mindT ξ) (by rw [em]; omega) (by rw [em]; omega) em okm fm
      obtain ⟨r, ξ2, e2, f2, G2⟩ := ih (i + 1) s' (sum + D) ξ1 (by omega) (by omega) f
      refine ⟨r, ξ2, ?_, f2, fun ν r1 hs => ?_⟩
      · rw [L4_lots_39, if_pos (show inR (i : Int) ∧ inR (n : Int) by omega), if_neg c, mind_eq N (by omega) b1 b2, Option.bind_some]
        exact e.trans e2
      · have r1' : ν 1 = ξ 1 := by rw [r1, hf 1 (by decide) (by omega)]
        obtain ⟨X, okX, -⟩ := mind_days b1 b2 b3 r1' 0 (by omega)
        obtain ⟨ν1, e5, f5, g5, h5⟩ := G (cp 1 2 ν) (L5_lots_52 N k) sum X okX (by rw [cp_row (by decide), r1]) (by rw [cp_c (by decide)]; exact hs) (by rw [cp_to (by decide), r1]; omega)
        obtain ⟨ν2, e6, f6, g6⟩ := G2 ν1 (by rw [f5 1 (by decide) (by decide), cp_row (by decide), r1]) h5
        refine ⟨ν2, ?_, fun a h0 h2 => by rw [f6 a h0 h2, f5 a h0 h2, cp_row h2], fun j hj => by rw [g6 j hj, g5 j hj, cp_c (by decide)]⟩
        rw [L5_lots_52, if_pos (show inR (i : Int) ∧ inR (n : Int) by omega), if_neg c, M5_copies_eq N 1 2 (by omega) (by decide), Option.bind_some]
        exact e5.trans e6
theorem op_lots (N : Nat) (hN : 200 ≤ N) {μ : mm} (R : Rel μ) {n z w : Int} (hn : inR n) (hw : inR w) : Op (M4_lots N n z w) (M5_lots N n z w) μ := by
  obtain ⟨⟨a1, a2, a3⟩, -⟩ := id R
  have hm := a2.1
  have ho := outZ_in n 1 20
  have ht := othZ_in w 1
  by_cases o : outZ n 1 20 = 0
  · have oo := outZ_0 o
    by_cases t : othZ w 1 = 0
    · have tt := othZ_0 t
      obtain ⟨j, rfl⟩ := Int.eq_ofNat_of_zero_le (show 0 ≤ n by omega)
      obtain ⟨r, ξ', e4, f4, G⟩ := lots_loop N hN a1 a2 a3 j (by omega) hw N 0 z 0 μ (by omega) (by omega) (fun _ _ _ => rfl)
      obtain ⟨ν', e5, f5, g5⟩ := G (mu ξ' 0 12 z) (by rw [mu_row (by decide), f4 1 (by decide) (by omega)]) mu_s
      rw [show ((0 : Nat) : Int) = 0 from rfl] at e4 e5
      refine ⟨r, ξ', ν', ?_, ?_, ?_⟩
      · simp only [M4_lots]
        rw [M4_outside_eq N hn (by decide) (by decide), Option.bind_some, M4_other_eq N hw (by decide), Option.bind_some, M4_firstOf_eq N ho ht, Option.bind_some, fst0 o t, if_pos (by decide), if_pos rfl]
        exact e4
      · simp only [M5_lots, bnd]
        rw [if_pos hn, if_pos (show 1 ≤ (j : Int) by omega), if_pos hn, if_pos (show (j : Int) ≤ 20 by omega), M5_isIn_eq N hw (by decide) (by decide), Option.bind_some, if_pos tt, if_pos (by decide), if_neg (by decide)]
        exact e5
      · refine Rel_scr R (fun a ha h0 => ?_) (fun i _ h12 => ?_)
        · have := scr_ne ha
          rw [f5 a h0 (by omega), mu_row h0, f4 a (by omega) (by omega)]
        · rw [g5 i h12, mu_j h12, f4 0 (by decide) (by omega)]
    · obtain ⟨t1, t2⟩ := oth_no t
      refine Op_ref N R (c := -2) (by decide) ?_ (fun ν _ => ?_)
      · simp only [M4_lots]
        rw [M4_outside_eq N hn (by decide) (by decide), Option.bind_some, M4_other_eq N hw (by decide), Option.bind_some, M4_firstOf_eq N ho ht, Option.bind_some, fst2 o t, t1, if_pos (by decide), if_neg (by decide), rf4 N (by decide)]
      · simp only [M5_lots, bnd]
        rw [if_pos hn, if_pos (show 1 ≤ n by omega), if_pos hn, if_pos (show n ≤ 20 by omega), M5_isIn_eq N hw (by decide) (by decide), Option.bind_some, if_neg t2, if_pos (by decide), if_pos rfl, rf5 N (by decide)]
  · refine Op_ref N R (c := outZ n 1 20) (by omega) ?_ (fun ν _ => ?_)
    · simp only [M4_lots]
      rw [M4_outside_eq N hn (by decide) (by decide), Option.bind_some, M4_other_eq N hw (by decide), Option.bind_some, M4_firstOf_eq N ho ht, Option.bind_some, fst1 o, if_pos (show inR (outZ n 1 20) by omega), if_neg o, rf4 N ho]
    · simp only [M5_lots, bnd]
      rw [if_pos hn, if_pos hn, rf5 N (by decide), rf5 N (by decide)]
      unfold outZ at o ⊢
      by_cases c1 : n < 1
      · rw [if_neg (show ¬ 1 ≤ n by omega), if_pos c1, rf5 N (by decide)]
      · rw [if_pos (show 1 ≤ n by omega), if_neg c1]
        rw [if_neg c1] at o
        by_cases c2 : 20 < n
        · rw [if_neg (show ¬ n ≤ 20 by omega), if_pos c2]
        · rw [if_neg c2] at o
          exact absurd rfl o
