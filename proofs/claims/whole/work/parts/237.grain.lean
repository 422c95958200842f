/-! grain -/
def mxZ (f : Nat → Int) : Nat → Nat → Int → Int → Int
  | 0, _, who, _ => who
  | k + 1, p, who, most => if f p ≤ most then mxZ f k (p + 1) who most else mxZ f k (p + 1) (p : Int) (f p)
def grF (n : Nat) (Q : Nat → Nat → Int) (p : Nat) : Int := thn n (Q p) (min 99 (Q p 2 + 1)) - thn n (Q p) (Q p 2)
theorem grF_in (n : Nat) {Q : Nat → Nat → Int} {p : Nat} (h : okP (Q p)) : -999 ≤ grF n Q p ∧ grF n Q p ≤ 999 := by
  have h2 := h.2.2.1
  have a := thn_in h (v := min 99 (Q p 2 + 1)) (by omega) n
  have b := thn_in h (v := Q p 2) h2 n
  unfold grF
  omega
theorem grain4 (N : Nat) (hN : 200 ≤ N) {μ : mm} (a1 : relO 10 1 μ) (a2 : okR μ 1) (n : Nat) (hn : n ≤ 100) (m : Nat) (hm : (m : Int) = μ 1 0) : ∀ (k p : Nat) (who most : Int) (ν : mm), p ≤ m → m < p + k → (0 ≤ most ∧ most ≤ 2000) → (∀ a, a ≠ 43 → ν a = μ a) →
    ∃ ν', L4_grain_27 N k (n : Int) who most (p : Int) ν = some (mxZ (grF n (fun j => μ (10 + 2 + j))) (m - p) p who most, ν') ∧ ∀ a, a ≠ 43 → ν' a = μ a := by
  have h8 := a2.1
  intro k
  induction k with
  | zero => intro p who most ν h1 h2; omega
  | succ k ih =>
    intro p who most ν h1 h2 hmo hf
    have e10 : ν 10 2 = (m : Int) := by rw [hf 10 (by decide), a1.1, hm]
    rw [L4_grain_27, e10, if_pos (show inR (p : Int) ∧ inR (m : Int) by omega)]
    by_cases c : (m : Int) ≤ (p : Int)
    · rw [if_pos c, show m - p = 0 by omega]
      exact ⟨ν, rfl, hf⟩
    · have hp8 : p < 8 := by omega
      have hq : okP (μ (10 + 2 + p)) := offP a1 a2 (by omega)
      have hq2 := hq.2.2.1
      have ep : ν (10 + 2 + p) = μ (10 + 2 + p) := hf _ (by omega)
      have hF := grF_in n (Q := fun j => μ (10 + 2 + j)) (p := p) hq
      rw [if_neg c, M1_at_eq N 10 p hp8, Option.bind_some, if_pos (kdo (Or.inl rfl) hp8)]
      simp only [bnd]
      rw [ep, if_pos (show inR (μ (10 + 2 + p) 2) by omega), show m - p = (m - (p + 1)) + 1 by omega, mxZ]
      by_cases d : μ (10 + 2 + p) 2 < 99
      · have eF : grF n (fun j => μ (10 + 2 + j)) p = thn n (μ (10 + 2 + p)) (μ (10 + 2 + p) 2 + 1) - thn n (μ (10 + 2 + p)) (μ (10 + 2 + p) 2) := by
          show thn n (μ (10 + 2 + p)) (min 99 (μ (10 + 2 + p) 2 + 1)) - _ = _
          rw [Int.min_eq_right (by omega)]
        obtain ⟨T, eT⟩ := throughMore_eq N hp8 ep hq (has := μ (10 + 2 + p) 2 + 1) (by omega) n hn hN
        have hf1 : ∀ a, a ≠ 43 → putC ν 43 T a = μ a := fun a h => (putC_row h).trans (hf a h)
        obtain ⟨T', eT'⟩ := throughMore_eq N hp8 (hf1 (10 + 2 + p) (by omega)) hq (has := μ (10 + 2 + p) 2) hq2 n hn hN
        have hf2 : ∀ a, a ≠ 43 → putC (putC ν 43 T) 43 T' a = μ a := fun a h => (putC_row h).trans (hf1 a h)
        rw [if_pos d, eT, Option.bind_some]
        dsimp only
        rw [eT', Option.bind_some]
        dsimp only
        rw [← eF, if_pos (show inR (grF n (fun j => μ (10 + 2 + j)) p) ∧ inR most by omega)]
        simp only [J4_grain_100]
        by_cases g : grF n (fun j => μ (10 + 2 + j)) p ≤ most
        · rw [if_pos g, if_pos g]
          exact ih (p + 1) who most _ (by omega) (by omega) hmo hf2
        · rw [if_neg g, if_neg g]
          exact ih (p + 1) (p : Int) _ _ (by omega) (by omega) (by omega) hf2
      · have eF : grF n (fun j => μ (10 + 2 + j)) p = 0 := by
          show thn n (μ (10 + 2 + p)) (min 99 (μ (10 + 2 + p) 2 + 1)) - thn n (μ (10 + 2 + p)) (μ (10 + 2 + p) 2) = 0
          rw [show min 99 (μ (10 + 2 + p) 2 + 1) = μ (10 + 2 + p) 2 by omega]
          omega
        rw [if_neg d, eF, if_pos hmo.1]
        simp only [J4_grain_100]
        exact ih (p + 1) who most ν (by omega) (by omega) hmo hf
theorem grain5 (N : Nat) (hN : 200 ≤ N) {μ : mm} (a1 : relO 10 1 μ) (a2 : okR μ 1) (a3 : μ 1 1 ≤ 999) (n : Nat) (hn : n ≤ 100) (m : Nat) (hm : (m : Int) = μ 1 0) (B : Int) (hB : B = sumN (fun j => thn n (μ (10 + 2 + j)) (μ (10 + 2 + j) 2)) m) : ∀ (k p : Nat) (who most : Int) (ν : mm), p ≤ m → m < p + k → (0 ≤ most ∧ most ≤ 2000) → (∀ a, a ≠ 2 → ν a = μ a) →
    ∃ ν', L5_grain_42 N k (n : Int) (B + most) who (p : Int) ν = some (mxZ (grF n (fun j => μ (10 + 2 + j))) (m - p) p who most, ν') ∧ ∀ a, a ≠ 2 → ν' a = μ a := by
  have h8 := a2.1
  have hBi := sumN_999 (f := fun j => thn n (μ (10 + 2 + j)) (μ (10 + 2 + j) 2)) m (fun i hi => thn_in (offP a1 a2 (by omega)) (offP a1 a2 (n := i) (by omega)).2.2.1 n)
  rw [← hB] at hBi
  intro k
  induction k with
  | zero => intro p who most ν h1 h2; omega
  | succ k ih =>
    intro p who most ν h1 h2 hmo hf
    have e1 := hf 1 (by decide)
    have e10 : ν 1 0 = (m : Int) := by rw [e1, hm]
    rw [L5_grain_42, e10, if_pos (show inR (p : Int) ∧ inR (m : Int) by omega)]
    by_cases c : (m : Int) ≤ (p : Int)
    · rw [if_pos c, show m - p = 0 by omega]
      exact ⟨ν, rfl, hf⟩
    · have hp8 : p < 8 := by omega
      have hq : okP (μ (10 + 2 + p)) := offP a1 a2 (by omega)
      have hq2 := hq.2.2.1
      have hF := grF_in n (Q := fun j => μ (10 + 2 + j)) (p := p) hq
      obtain ⟨s1, s2, s3, s4, s5, s6⟩ := cpS a1 a2 e1
      have h62 := s6 p (by omega)
      have hv : 0 ≤ min 99 (μ (10 + 2 + p) 2 + 1) ∧ min 99 (μ (10 + 2 + p) 2 + 1) ≤ 99 := by omega
      have okq := okP_has hq hv
      have okp := okR_putP (p := p) s1 okq
      have ct : ∀ a, a ≠ 2 → putP (cp 1 2 ν) 2 p (fu (μ (10 + 2 + p)) 2 (min 99 (μ (10 + 2 + p) 2 + 1))) a = μ a := fun a h => (putP_row h).trans ((cp_row h).trans (hf a h))
      have eB := thrB N (ν := putP (cp 1 2 ν) 2 p (fu (μ (10 + 2 + p)) 2 (min 99 (μ (10 + 2 + p) 2 + 1)))) hN m (by omega) (by rw [ct 1 (by decide), hm]) okp (by rw [putP_lo (by decide), s2, hm]) (by rw [putP_lo (by decide), s3]; omega) n hn (Q := fun j => μ (10 + 2 + j)) (fun j hj => by intro k hk; rw [ct 1 (by decide)]; exact a1.2.2.2.2 j (by omega) k hk) (putP_all (fun j hj => s6 j (by omega)))
      have eV : sumN (fun j => dayI n (if j = p then fu (μ (10 + 2 + p)) 2 (min 99 (μ (10 + 2 + p) 2 + 1)) else μ (10 + 2 + j)) 4 - μ (10 + 2 + j) 4) m = B + grF n (fun j => μ (10 + 2 + j)) p := by
        rw [hB, sumN_upd (p := p) (g := fun j => thn n (μ (10 + 2 + j)) (μ (10 + 2 + j) 2)) (fun j hj => ?_) m (by omega)]
        · show _ + (dayI n (if p = p then fu (μ (10 + 2 + p)) 2 (min 99 (μ (10 + 2 + p) 2 + 1)) else μ (10 + 2 + p)) 4 - μ (10 + 2 + p) 4 - thn n (μ (10 + 2 + p)) (μ (10 + 2 + p) 2)) = _
          rw [if_pos rfl]
          rfl
        · show dayI n (if j = p then _ else μ (10 + 2 + j)) 4 - μ (10 + 2 + j) 4 = thn n (μ (10 + 2 + j)) (μ (10 + 2 + j) 2)
          rw [if_neg hj]
          unfold thn
          rw [fu_self]
      rw [eV] at eB
      rw [if_neg c, M5_copies_eq N 1 2 (by omega) (by decide), Option.bind_some, if_pos (ixg hp8 (by decide)), ix2, h62 2 (by decide), M5_least_eq N (by decide) (by omega), Option.bind_some, if_pos (ixg hp8 (by decide))]
      simp only [bnd]
      rw [set2 h62, eB, Option.bind_some]
      dsimp only
      rw [if_pos (show inR (B + grF n (fun j => μ (10 + 2 + j)) p) ∧ inR (B + most) by omega), show m - p = (m - (p + 1)) + 1 by omega, mxZ]
      simp only [J5_grain_116]
      have ct2 : ∀ a, a ≠ 2 → days 2 n (putP (cp 1 2 ν) 2 p (fu (μ (10 + 2 + p)) 2 (min 99 (μ (10 + 2 + p) 2 + 1)))) a = μ a := fun a h => (funext fun b => days_c h n).trans (ct a h)
      by_cases g : grF n (fun j => μ (10 + 2 + j)) p ≤ most
      · rw [if_neg (show ¬ B + most < B + grF n (fun j => μ (10 + 2 + j)) p by omega), if_pos g]
        exact ih (p + 1) who most _ (by omega) (by omega) hmo ct2
      · rw [if_pos (show B + most < B + grF n (fun j => μ (10 + 2 + j)) p by omega), if_neg g]
        exact ih (p + 1) (p : Int) _ _ (by omega) (by omega) (by omega) ct2
theorem rel_of43 {μ ν : mm} (a1 : relO 10 1 μ) (a2 : okR μ 1) (hf : ∀ a, a ≠ 43 → ν a = μ a) : relO 10 1 ν ∧ okR ν 1 := by
  have e1 := hf 1 (by decide)
  exact ⟨relO_congr a1 (hf 10 (by decide)) e1 (fun p hp => hf _ (by omega)) a2.1.2, okR_congr a2 e1⟩
theorem op_grain (N : Nat) (hN : 200 ≤ N) {μ : mm} (R : Rel μ) {n : Int} (hn : inR n) : Op (M4_grain N n) (M5_grain N n) μ := by
  obtain ⟨⟨a1, a2, a3⟩, -⟩ := id R
  have hm := a2.1
  have ho := outZ_in n 1 30
  by_cases o : outZ n 1 30 = 0
  · have oo := outZ_0 o
    obtain ⟨j, rfl⟩ := Int.eq_ofNat_of_zero_le (show 0 ≤ n by omega)
    obtain ⟨m, hmm⟩ := Int.eq_ofNat_of_zero_le hm.1
    obtain ⟨μ1, e4, f4⟩ := grain4 N hN a1 a2 j (by omega) m hmm.symm N 0 (-9) 0 μ (by omega) (by omega) (by decide) (fun _ _ => rfl)
    obtain ⟨b1, b2⟩ := rel_of43 a1 a2 f4
    have r1 := f4 1 (by decide)
    have hpp : ∀ i : Nat, (i : Int) < μ 1 0 → μ1 (10 + 2 + i) = μ (10 + 2 + i) := fun i hi => f4 _ (by omega)
    obtain ⟨s1, s2, s3, s4, s5, s6⟩ := cpS b1 b2 (ν := μ1) rfl
    have eB := thrB N (ν := cp 1 2 μ1) hN m (by omega) (by rw [s5, r1, hmm]) s1 (by rw [s2, r1, hmm]) (by rw [s3, r1]; omega) j (by omega) (Q := fun i => μ1 (10 + 2 + i)) (Q' := fun i => μ1 (10 + 2 + i)) (fun i hi => by intro k hk; rw [s5]; exact b1.2.2.2.2 i (by rw [r1]; omega) k hk) (fun i hi => s6 i (by rw [r1]; omega))
    have eB' : sumN (fun i => dayI j (μ1 (10 + 2 + i)) 4 - μ1 (10 + 2 + i) 4) m = sumN (fun i => thn j (μ1 (10 + 2 + i)) (μ1 (10 + 2 + i) 2)) m := sumN_congr _ (fun i hi => by unfold thn; rw [fu_self])
    obtain ⟨μ2, e5, f5⟩ := grain5 N hN (μ := μ1) b1 b2 (by rw [r1]; exact a3) j (by omega) m (by rw [r1]; exact hmm.symm) (sumN (fun i => thn j (μ1 (10 + 2 + i)) (μ1 (10 + 2 + i) 2)) m) rfl N 0 (-9) 0 (days 2 j (cp 1 2 μ1)) (by omega) (by omega) (by decide) (fun a h => (funext fun b => days_c h j).trans (cp_row h))
    have eF : mxZ (grF j (fun i => μ1 (10 + 2 + i))) (m - 0) 0 (-9) 0 = mxZ (grF j (fun i => μ (10 + 2 + i))) (m - 0) 0 (-9) 0 := by
      have : ∀ k p who most, p + k ≤ m → mxZ (grF j (fun i => μ1 (10 + 2 + i))) k p who most = mxZ (grF j (fun i => μ (10 + 2 + i))) k p who most := by
        intro k
        induction k with
        | zero => intro p who most _; rfl
        | succ k ih =>
          intro p who most h
          have ef : grF j (fun i => μ1 (10 + 2 + i)) p = grF j (fun i => μ (10 + 2 + i)) p := by
            unfold grF
            dsimp only
            rw [hpp p (by omega)]
          rw [mxZ, mxZ, ef, ih (p + 1) _ _ (by omega), ih (p + 1) _ _ (by omega)]
      exact this _ _ _ _ (by omega)
    rw [eF, Int.add_zero, show ((0 : Nat) : Int) = 0 from rfl] at e5
    rw [show ((0 : Nat) : Int) = 0 from rfl] at e4
    refine ⟨mxZ (grF j (fun i => μ (10 + 2 + i))) (m - 0) 0 (-9) 0, μ1, μ2, ?_, ?_, Rel_m R (fun a h43 h2 h4 => (f5 a h2).trans (f4 a h43))⟩
    · simp only [M4_grain]
      rw [M4_outside_eq N hn (by decide) (by decide), Option.bind_some, o, if_pos (by decide), if_pos rfl]
      exact e4
    · simp only [M5_grain]
      rw [M5_wrongBy_eq N hn (by decide) (by decide), Option.bind_some, o, if_pos (by decide), if_pos rfl, M5_copies_eq N 1 2 (by omega) (by decide), Option.bind_some, eB, Option.bind_some]
      dsimp only
      rw [eB']
      exact e5
  · refine Op_ref N R (c := outZ n 1 30) (by omega) ?_ (fun ν _ => ?_)
    · simp only [M4_grain]
      rw [M4_outside_eq N hn (by decide) (by decide), Option.bind_some, if_pos (show inR (outZ n 1 30) by omega), if_neg o, rf4 N ho]
    · simp only [M5_grain]
      rw [M5_wrongBy_eq N hn (by decide) (by decide), Option.bind_some, if_pos (show inR (outZ n 1 30) by omega), if_neg o, rf5 N ho]
