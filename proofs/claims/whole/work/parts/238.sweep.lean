/-! sweep -/
def mnZ (f h : Nat → Int) (w : Int) : Nat → Nat → Int → Int → Int
  | 0, _, who, few => if w = 0 then who else few
  | k + 1, p, who, few => if h p = 0 then mnZ f h w k (p + 1) who few else if who < 0 ∨ f p < few then mnZ f h w k (p + 1) (p : Int) (f p) else mnZ f h w k (p + 1) who few
def swF (n : Nat) (Q : Nat → Nat → Int) (p : Nat) : Int := shn n (Q p) 0 - shn n (Q p) (Q p 2)
def swI (who few : Int) : Prop := (who = -9 ∧ few = -9) ∨ (0 ≤ who ∧ who < 8 ∧ -999 ≤ few ∧ few ≤ 999)
theorem swF_in (n : Nat) {Q : Nat → Nat → Int} {p : Nat} (h : okP (Q p)) : -999 ≤ swF n Q p ∧ swF n Q p ≤ 999 := by
  have h2 := h.2.2.1
  have a := shn_in h (v := 0) (by decide) n
  have b := shn_in h (v := Q p 2) h2 n
  unfold swF
  omega
theorem sweep4 (N : Nat) (hN : 200 ≤ N) {μ : mm} (a1 : relO 10 1 μ) (a2 : okR μ 1) (n : Nat) (hn : n ≤ 100) (m : Nat) (hm : (m : Int) = μ 1 0) {w : Int} (hw : inR w) : ∀ (k p : Nat) (who few : Int) (ν : mm), p ≤ m → m < p + k → swI who few → (∀ a, a ≠ 43 → ν a = μ a) →
    ∃ ν', L4_sweep_38 N k (n : Int) w who few (p : Int) ν = some (mnZ (swF n (fun j => μ (10 + 2 + j))) (fun j => μ (10 + 2 + j) 2) w (m - p) p who few, ν') ∧ ∀ a, a ≠ 43 → ν' a = μ a := by
  have h8 := a2.1
  intro k
  induction k with
  | zero => intro p who few ν h1 h2; omega
  | succ k ih =>
    intro p who few ν h1 h2 hI hf
    have e10 : ν 10 2 = (m : Int) := by rw [hf 10 (by decide), a1.1, hm]
    rw [L4_sweep_38, e10, if_pos (show inR (p : Int) ∧ inR (m : Int) by omega)]
    by_cases c : (m : Int) ≤ (p : Int)
    · rw [if_pos c, show m - p = 0 by omega, if_pos hw, mnZ]
      by_cases d : w = 0
      · rw [if_pos d, if_pos d]
        exact ⟨ν, rfl, hf⟩
      · rw [if_neg d, if_neg d]
        exact ⟨ν, rfl, hf⟩
    · have hp8 : p < 8 := by omega
      have hq : okP (μ (10 + 2 + p)) := offP a1 a2 (by omega)
      have hq2 := hq.2.2.1
      have ep : ν (10 + 2 + p) = μ (10 + 2 + p) := hf _ (by omega)
      have hF := swF_in n (Q := fun j => μ (10 + 2 + j)) (p := p) hq
      rw [if_neg c, M1_at_eq N 10 p hp8, Option.bind_some, if_pos (kdo (Or.inl rfl) hp8)]
      simp only [bnd]
      rw [ep, if_pos (show inR (μ (10 + 2 + p) 2) by omega), show m - p = (m - (p + 1)) + 1 by omega, mnZ]
      simp only [J4_sweep_104, J4_sweep_112]
      by_cases d : μ (10 + 2 + p) 2 = 0
      · rw [if_pos d, if_pos d]
        exact ih (p + 1) who few ν (by omega) (by omega) hI hf
      · obtain ⟨T, eT⟩ := shortMore_eq N hp8 ep hq (has := 0) (by decide) n hn hN
        have hf1 : ∀ a, a ≠ 43 → putC ν 43 T a = μ a := fun a h => (putC_row h).trans (hf a h)
        obtain ⟨T', eT'⟩ := shortMore_eq N hp8 (hf1 (10 + 2 + p) (by omega)) hq (has := μ (10 + 2 + p) 2) hq2 n hn hN
        have hf2 : ∀ a, a ≠ 43 → putC (putC ν 43 T) 43 T' a = μ a := fun a h => (putC_row h).trans (hf1 a h)
        have eF : shn n (μ (10 + 2 + p)) 0 - shn n (μ (10 + 2 + p)) (μ (10 + 2 + p) 2) = swF n (fun j => μ (10 + 2 + j)) p := rfl
        rw [if_neg d, if_neg d, eT, Option.bind_some]
        dsimp only
        rw [eT', Option.bind_some]
        dsimp only
        rw [eF]
        rcases hI with ⟨rfl, rfl⟩ | ⟨i1, i2, i3, i4⟩
        · rw [if_pos (by decide), if_pos (by decide), if_pos (Or.inl (by decide))]
          exact ih (p + 1) (p : Int) _ _ (by omega) (by omega) (Or.inr (by omega)) hf2
        · rw [if_pos (show inR who by omega), if_neg (show ¬ who < 0 by omega), if_pos (show inR (swF n (fun j => μ (10 + 2 + j)) p) ∧ inR few by omega)]
          by_cases g : few ≤ swF n (fun j => μ (10 + 2 + j)) p
          · rw [if_pos g, if_neg (by omega)]
            exact ih (p + 1) who few _ (by omega) (by omega) (Or.inr (by omega)) hf2
          · rw [if_neg g, if_pos (by omega)]
            exact ih (p + 1) (p : Int) _ _ (by omega) (by omega) (Or.inr (by omega)) hf2
theorem sweep5 (N : Nat) (hN : 200 ≤ N) {μ : mm} (a1 : relO 10 1 μ) (a2 : okR μ 1) (a3 : μ 1 1 ≤ 999) (n : Nat) (hn : n ≤ 100) (m : Nat) (hm : (m : Int) = μ 1 0) {w : Int} (hw : inR w) (B : Int) (hB : B = sumN (fun j => dayI n (μ (10 + 2 + j)) 5) m) : ∀ (k p : Nat) (who few : Int) (ν : mm), p ≤ m → m < p + k → swI who few → (∀ a, a ≠ 2 → ν a = μ a) →
    ∃ ν', L5_sweep_60 N k (n : Int) w B who (if who < 0 then 1000000000 else few) (p : Int) ν = some (mnZ (swF n (fun j => μ (10 + 2 + j))) (fun j => μ (10 + 2 + j) 2) w (m - p) p who few, ν') ∧ ∀ a, a ≠ 2 → ν' a = μ a := by
  have h8 := a2.1
  intro k
  induction k with
  | zero => intro p who few ν h1 h2; omega
  | succ k ih =>
    intro p who few ν h1 h2 hI hf
    have e1 := hf 1 (by decide)
    have e10 : ν 1 0 = (m : Int) := by rw [e1, hm]
    rw [L5_sweep_60, e10, if_pos (show inR (p : Int) ∧ inR (m : Int) by omega)]
    by_cases c : (m : Int) ≤ (p : Int)
    · rw [if_pos c, show m - p = 0 by omega, mnZ]
      rcases hI with ⟨rfl, rfl⟩ | ⟨i1, i2, i3, i4⟩
      · rw [if_pos (by decide), if_pos (by decide), ite_self]
        exact ⟨ν, rfl, hf⟩
      · rw [if_pos (show inR who by omega), if_neg (show ¬ who < 0 by omega), if_pos hw, if_neg (show ¬ who < 0 by omega)]
        by_cases d : w = 0
        · rw [if_pos d, if_pos d]
          exact ⟨ν, rfl, hf⟩
        · rw [if_neg d, if_neg d]
          exact ⟨ν, rfl, hf⟩
    · have hp8 : p < 8 := by omega
      have hq : okP (μ (10 + 2 + p)) := offP a1 a2 (by omega)
      have hq2 := hq.2.2.1
      have hF := swF_in n (Q := fun j => μ (10 + 2 + j)) (p := p) hq
      have h61 : at6 ν 1 p (μ (10 + 2 + p)) := by intro k hk; rw [e1]; exact a1.2.2.2.2 p (by omega) k hk
      rw [if_neg c, if_pos (ixg hp8 (by decide)), ix2, h61 2 (by decide), if_pos (show inR (μ (10 + 2 + p) 2) by omega), show m - p = (m - (p + 1)) + 1 by omega, mnZ]
      simp only [J5_sweep_147]
      by_cases d : μ (10 + 2 + p) 2 = 0
      · rw [if_pos d, if_pos d]
        exact ih (p + 1) who few ν (by omega) (by omega) hI hf
      · obtain ⟨s1, s2, s3, s4, s5, s6⟩ := cpS a1 a2 e1
        have h62 := s6 p (by omega)
        have o2 := a2.2.2.1
        have o3 := s1.2.2.2.1
        have okp := okR_putP (p := p) s1 (okP_has hq (show (0 : Int) ≤ 0 ∧ (0 : Int) ≤ 99 by decide))
        rw [if_neg d, if_neg d, M5_copies_eq N 1 2 (by omega) (by decide), Option.bind_some, M5_handsIn_eq N 2 p hp8 (cp 1 2 ν) (by rw [s4]; exact o2) (by rw [h62 2 (by decide)]; exact hq2) o3, Option.bind_some, h62 2 (by decide), set2 h62]
        generalize hS : min 999 (cp 1 2 ν 2 2 + μ (10 + 2 + p) 2) = S
        generalize hW : min 9999 (cp 1 2 ν 2 3 + max 0 (cp 1 2 ν 2 2 + μ (10 + 2 + p) 2 - 999)) = W
        have hX : ∀ b, 4 ≤ b → mu (mu (putP (cp 1 2 ν) 2 p (fu (μ (10 + 2 + p)) 2 0)) 2 2 S) 2 3 W 2 b = putP (cp 1 2 ν) 2 p (fu (μ (10 + 2 + p)) 2 0) 2 b := fun b hb => by rw [mu_j (by omega), mu_j (by omega)]
        have x0 : mu (mu (putP (cp 1 2 ν) 2 p (fu (μ (10 + 2 + p)) 2 0)) 2 2 S) 2 3 W 2 0 = μ 1 0 := by rw [mu_j (by decide), mu_j (by decide), putP_lo (by decide), s2]
        have x1 : mu (mu (putP (cp 1 2 ν) 2 p (fu (μ (10 + 2 + p)) 2 0)) 2 2 S) 2 3 W 2 1 = μ 1 1 := by rw [mu_j (by decide), mu_j (by decide), putP_lo (by decide), s3]
        have okx : okR (mu (mu (putP (cp 1 2 ν) 2 p (fu (μ (10 + 2 + p)) 2 0)) 2 2 S) 2 3 W) 2 := by
          refine ⟨by rw [x0]; exact h8, by rw [x1]; exact a2.2.1, by rw [mu_j (by decide), mu_s]; omega, by rw [mu_s]; omega, fun i hi => ?_⟩
          rw [x0] at hi
          refine okP_congr (okp.2.2.2.2 i (by rw [putP_lo (by decide), s2]; exact hi)) (fun k hk => ?_)
          exact hX _ (by omega)
        have hrow : ∀ a, a ≠ 2 → mu (mu (putP (cp 1 2 ν) 2 p (fu (μ (10 + 2 + p)) 2 0)) 2 2 S) 2 3 W a = μ a := fun a h => by rw [mu_row h, mu_row h, putP_row h, cp_row h, hf a h]
        have hAt : ∀ j, j < m → at6 (mu (mu (putP (cp 1 2 ν) 2 p (fu (μ (10 + 2 + p)) 2 0)) 2 2 S) 2 3 W) 2 j (if j = p then fu (μ (10 + 2 + p)) 2 0 else μ (10 + 2 + j)) := fun j hj k hk => (hX _ (by omega)).trans (putP_all (m := m) (fun j hj => s6 j (by omega)) j hj k hk)
        generalize mu (mu (putP (cp 1 2 ν) 2 p (fu (μ (10 + 2 + p)) 2 0)) 2 2 S) 2 3 W = χ at x0 x1 okx hrow hAt
        have okd := days_ok okx n (by omega)
        have eA := M5_allOf_eq N 2 5 (by decide) (by omega) (μ := days 2 n χ) okd.1
        have sA : sumN (fun p => days 2 n χ 2 (4 + 6 * p + 5)) (days 2 n χ 2 0).toNat = B + swF n (fun j => μ (10 + 2 + j)) p := by
          rw [days_many, x0, ← hm, Int.toNat_natCast, sumN_congr (g := fun j => dayI n (if j = p then fu (μ (10 + 2 + p)) 2 0 else μ (10 + 2 + j)) 5) m (fun i hi => days_at (by omega) (hAt i hi) n 5 (by decide)), sumN_upd (p := p) (g := fun j => dayI n (μ (10 + 2 + j)) 5) (fun j hj => by rw [if_neg hj]) m (by omega), if_pos rfl, hB]
          show _ = _ + ((dayI n (fu (μ (10 + 2 + p)) 2 0) 5 - μ (10 + 2 + p) 5) - (dayI n (fu (μ (10 + 2 + p)) 2 (μ (10 + 2 + p) 2)) 5 - μ (10 + 2 + p) 5))
          rw [fu_self]
          omega
        rw [show ((5 : Nat) : Int) = 5 from rfl, sA] at eA
        rw [M5_daysOn_eq N 2 (by omega) okx n (by omega) (by omega), Option.bind_some, eA, Option.bind_some]
        simp only [bnd]
        rw [show B + swF n (fun j => μ (10 + 2 + j)) p - B = swF n (fun j => μ (10 + 2 + j)) p by omega]
        have ct2 : ∀ a, a ≠ 2 → days 2 n χ a = μ a := fun a h => (funext fun b => days_c h n).trans (hrow a h)
        have go := fun who' few' hI' => ih (p + 1) who' few' (days 2 n χ) (by omega) (by omega) hI' ct2
        have gp := go (p : Int) (swF n (fun j => μ (10 + 2 + j)) p) (Or.inr (by omega))
        rw [if_neg (show ¬ (p : Int) < 0 by omega)] at gp
        rcases hI with ⟨rfl, rfl⟩ | ⟨i1, i2, i3, i4⟩
        · rw [if_pos (show ((-9 : Int)) < 0 by decide), if_pos (show inR (swF n (fun j => μ (10 + 2 + j)) p) ∧ inR (1000000000 : Int) by omega), if_pos (show swF n (fun j => μ (10 + 2 + j)) p < 1000000000 by omega), if_pos (Or.inl (by decide))]
          exact gp
        · have gw := go who few (Or.inr (by omega))
          rw [if_neg (show ¬ who < 0 by omega)] at gw ⊢
          rw [if_pos (show inR (swF n (fun j => μ (10 + 2 + j)) p) ∧ inR few by omega)]
          by_cases g : swF n (fun j => μ (10 + 2 + j)) p < few
          · rw [if_pos g, if_pos (Or.inr g)]
            exact gp
          · rw [if_neg g, if_neg (by omega)]
            exact gw
theorem mnZ_congr {f f' h h' : Nat → Int} (w : Int) (m : Nat) (e : ∀ p, p < m → f p = f' p ∧ h p = h' p) : ∀ k p who few, p + k ≤ m → mnZ f h w k p who few = mnZ f' h' w k p who few := by
  intro k
  induction k with
  | zero => intro p who few _; rfl
  | succ k ih =>
    intro p who few hp
    rw [mnZ, mnZ, (e p (by omega)).1, (e p (by omega)).2, ih (p + 1) _ _ (by omega), ih (p + 1) _ _ (by omega)]
theorem op_sweep (N : Nat) (hN : 200 ≤ N) {μ : mm} (R : Rel μ) {n w : Int} (hn : inR n) (hw : inR w) : Op (M4_sweep N n w) (M5_sweep N n w) μ := by
  obtain ⟨⟨a1, a2, a3⟩, -⟩ := id R
  have hm := a2.1
  have ho := outZ_in n 1 30
  have ht := othZ_in w 1
  by_cases o : outZ n 1 30 = 0
  · have oo := outZ_0 o
    by_cases t : othZ w 1 = 0
    · have tt := othZ_0 t
      obtain ⟨j, rfl⟩ := Int.eq_ofNat_of_zero_le (show 0 ≤ n by omega)
      obtain ⟨m, hmm⟩ := Int.eq_ofNat_of_zero_le hm.1
      obtain ⟨μ1, e4, f4⟩ := sweep4 N hN a1 a2 j (by omega) m hmm.symm hw N 0 (-9) (-9) μ (by omega) (by omega) (Or.inl ⟨rfl, rfl⟩) (fun _ _ => rfl)
      obtain ⟨b1, b2⟩ := rel_of43 a1 a2 f4
      have r1 := f4 1 (by decide)
      have hpp : ∀ i : Nat, (i : Int) < μ 1 0 → μ1 (10 + 2 + i) = μ (10 + 2 + i) := fun i hi => f4 _ (by omega)
      obtain ⟨s1, s2, s3, s4, s5, s6⟩ := cpS b1 b2 (ν := μ1) rfl
      have okd := days_ok s1 j (by rw [s3, r1]; omega)
      have eA := M5_allOf_eq N 2 5 (by decide) (by omega) (μ := days 2 j (cp 1 2 μ1)) okd.1
      have sA : sumN (fun p => days 2 j (cp 1 2 μ1) 2 (4 + 6 * p + 5)) (days 2 j (cp 1 2 μ1) 2 0).toNat = sumN (fun i => dayI j (μ1 (10 + 2 + i)) 5) m := by
        rw [days_many, s2, r1, hmm, Int.toNat_natCast]
        exact sumN_congr _ (fun i hi => days_at (by rw [s2, r1]; omega) (s6 i (by rw [r1]; omega)) j 5 (by decide))
      rw [show ((5 : Nat) : Int) = 5 from rfl, sA] at eA
      obtain ⟨μ2, e5, f5⟩ := sweep5 N hN (μ := μ1) b1 b2 (by rw [r1]; exact a3) j (by omega) m (by rw [r1]; exact hmm.symm) hw _ rfl N 0 (-9) (-9) (days 2 j (cp 1 2 μ1)) (by omega) (by omega) (Or.inl ⟨rfl, rfl⟩) (fun a h => (funext fun b => days_c h j).trans (cp_row h))
      rw [mnZ_congr w m (f' := swF j (fun i => μ (10 + 2 + i))) (h' := fun i => μ (10 + 2 + i) 2) (fun p hp => by
        unfold swF
        dsimp only
        rw [hpp p (by omega)]
        exact ⟨rfl, rfl⟩) _ _ _ _ (by omega), if_pos (show ((-9 : Int)) < 0 by decide), show ((0 : Nat) : Int) = 0 from rfl] at e5
      rw [show ((0 : Nat) : Int) = 0 from rfl] at e4
      refine ⟨mnZ (swF j (fun i => μ (10 + 2 + i))) (fun i => μ (10 + 2 + i) 2) w (m - 0) 0 (-9) (-9), μ1, μ2, ?_, ?_, Rel_m R (fun a h43 h2 h4 => (f5 a h2).trans (f4 a h43))⟩
      · simp only [M4_sweep]
        rw [M4_outside_eq N hn (by decide) (by decide), Option.bind_some, M4_other_eq N hw (by decide), Option.bind_some, M4_firstOf_eq N ho ht, Option.bind_some, fst0 o t, if_pos (by decide), if_pos rfl]
        exact e4
      · simp only [M5_sweep, J5_sweep_24]
        rw [M5_wrongBy_eq N hn (by decide) (by decide), Option.bind_some, o, if_pos (by decide), if_pos rfl, M5_isIn_eq N hw (by decide) (by decide), Option.bind_some, if_pos tt, if_pos (by decide), if_neg (by decide), if_pos (by decide), if_pos rfl, M5_takes_eq N (by omega) b2 (by rw [r1]; exact a3) j (by omega), Option.bind_some, eA, Option.bind_some]
        exact e5
    · obtain ⟨t1, t2⟩ := oth_no t
      refine Op_ref N R (c := -2) (by decide) ?_ (fun ν _ => ?_)
      · simp only [M4_sweep]
        rw [M4_outside_eq N hn (by decide) (by decide), Option.bind_some, M4_other_eq N hw (by decide), Option.bind_some, M4_firstOf_eq N ho ht, Option.bind_some, fst2 o t, t1, if_pos (by decide), if_neg (by decide), rf4 N (by decide)]
      · simp only [M5_sweep, J5_sweep_24]
        rw [M5_wrongBy_eq N hn (by decide) (by decide), Option.bind_some, o, if_pos (by decide), if_pos rfl, M5_isIn_eq N hw (by decide) (by decide), Option.bind_some, if_neg t2, if_pos (by decide), if_pos rfl, if_pos (by decide), if_neg (by decide), rf5 N (by decide)]
  · refine Op_ref N R (c := outZ n 1 30) (by omega) ?_ (fun ν _ => ?_)
    · simp only [M4_sweep]
      rw [M4_outside_eq N hn (by decide) (by decide), Option.bind_some, M4_other_eq N hw (by decide), Option.bind_some, M4_firstOf_eq N ho ht, Option.bind_some, fst1 o, if_pos (show inR (outZ n 1 30) by omega), if_neg o, rf4 N ho]
    · simp only [M5_sweep, J5_sweep_24]
      rw [M5_wrongBy_eq N hn (by decide) (by decide), Option.bind_some, if_pos (show inR (outZ n 1 30) by omega), if_neg o, if_pos (show inR (outZ n 1 30) by omega), if_neg o, rf5 N ho]
