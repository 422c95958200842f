/-! borrow -/
def boZ (f : Nat → Int) (g : Nat → Prop) [DecidablePred g] : Nat → Nat → Int → Int → Int
  | 0, _, who, _ => who
  | k + 1, p, who, most => if g p then (if f p ≤ most then boZ f g k (p + 1) who most else boZ f g k (p + 1) (p : Int) (f p)) else boZ f g k (p + 1) who most
def boF (n : Nat) (Q : Nat → Nat → Int) (i : Nat) (l : Int) (p : Nat) : Int := (thn n (Q i) (Q i 2 + l) - thn n (Q i) (Q i 2)) + thn n (Q p) (Q p 2 - l) - thn n (Q p) (Q p 2)
theorem borrow4 (N : Nat) (hN : 200 ≤ N) {μ : mm} (a1 : relO 10 1 μ) (a2 : okR μ 1) (n : Nat) (hn : n ≤ 100) (m : Nat) (hm : (m : Int) = μ 1 0) (i : Nat) (hi : i < m) (l : Int) (hl : 1 ≤ l ∧ μ (10 + 2 + i) 2 + l ≤ 99) : ∀ (k p : Nat) (who most : Int) (ν : mm), p ≤ m → m < p + k → (0 ≤ most ∧ most ≤ 4000) → (∀ a, a ≠ 43 → ν a = μ a) →
    ∃ ν', L4_borrow_103 N k (i : Int) (n : Int) l (thn n (μ (10 + 2 + i)) (μ (10 + 2 + i) 2 + l) - thn n (μ (10 + 2 + i)) (μ (10 + 2 + i) 2)) who most (p : Int) ν = some (boZ (boF n (fun j => μ (10 + 2 + j)) i l) (fun p => p ≠ i ∧ l ≤ μ (10 + 2 + p) 2) (m - p) p who most, ν') ∧ ∀ a, a ≠ 43 → ν' a = μ a := by
  have h8 := a2.1
  have hqi : okP (μ (10 + 2 + i)) := offP a1 a2 (by omega)
  have hqi2 := hqi.2.2.1
  have g1 := thn_in hqi (v := μ (10 + 2 + i) 2 + l) (by omega) n
  have g2 := thn_in hqi hqi2 n
  intro k
  induction k with
  | zero => intro p who most ν h1 h2; omega
  | succ k ih =>
    intro p who most ν h1 h2 hmo hf
    have e10 : ν 10 2 = (m : Int) := by rw [hf 10 (by decide), a1.1, hm]
    rw [L4_borrow_103, e10, if_pos (show inR (p : Int) ∧ inR (m : Int) by omega)]
    by_cases c : (m : Int) ≤ (p : Int)
    · rw [if_pos c, show m - p = 0 by omega]
      exact ⟨ν, rfl, hf⟩
    · have hp8 : p < 8 := by omega
      have hq : okP (μ (10 + 2 + p)) := offP a1 a2 (by omega)
      have hq2 := hq.2.2.1
      have ep : ν (10 + 2 + p) = μ (10 + 2 + p) := hf _ (by omega)
      rw [if_neg c, M1_at_eq N 10 p hp8, Option.bind_some, if_pos (kdo (Or.inl rfl) hp8)]
      simp only [bnd]
      rw [ep, if_pos (show inR (p : Int) ∧ inR (i : Int) by omega), show m - p = (m - (p + 1)) + 1 by omega, boZ]
      simp only [J4_borrow_187]
      by_cases d : (p : Int) = (i : Int)
      · rw [if_pos d, if_neg (show ¬ (p ≠ i ∧ l ≤ μ (10 + 2 + p) 2) by omega)]
        exact ih (p + 1) who most ν (by omega) (by omega) hmo hf
      · rw [if_neg d, if_pos (show inR (μ (10 + 2 + p) 2) ∧ inR l by omega)]
        by_cases f : l ≤ μ (10 + 2 + p) 2
        · have t1 := thn_in hq (v := μ (10 + 2 + p) 2 - l) (by omega) n
          have t2 := thn_in hq hq2 n
          obtain ⟨T, eT⟩ := throughMore_eq N hp8 ep hq (has := μ (10 + 2 + p) 2 - l) (by omega) n hn hN
          have hf1 : ∀ a, a ≠ 43 → putC ν 43 T a = μ a := fun a h => (putC_row h).trans (hf a h)
          obtain ⟨T', eT'⟩ := throughMore_eq N hp8 (hf1 (10 + 2 + p) (by omega)) hq (has := μ (10 + 2 + p) 2) hq2 n hn hN
          have hf2 : ∀ a, a ≠ 43 → putC (putC ν 43 T) 43 T' a = μ a := fun a h => (putC_row h).trans (hf1 a h)
          have eF : (thn n (μ (10 + 2 + i)) (μ (10 + 2 + i) 2 + l) - thn n (μ (10 + 2 + i)) (μ (10 + 2 + i) 2)) + thn n (μ (10 + 2 + p)) (μ (10 + 2 + p) 2 - l) - thn n (μ (10 + 2 + p)) (μ (10 + 2 + p) 2) = boF n (fun j => μ (10 + 2 + j)) i l p := rfl
          have hF : -4000 ≤ boF n (fun j => μ (10 + 2 + j)) i l p ∧ boF n (fun j => μ (10 + 2 + j)) i l p ≤ 4000 := by omega
          rw [if_pos f, if_pos (show p ≠ i ∧ l ≤ μ (10 + 2 + p) 2 by omega), eT, Option.bind_some]
          dsimp only
          rw [eT', Option.bind_some]
          dsimp only
          rw [eF, if_pos (show inR (boF n (fun j => μ (10 + 2 + j)) i l p) ∧ inR most by omega)]
          by_cases g : boF n (fun j => μ (10 + 2 + j)) i l p ≤ most
          · rw [if_pos g, if_pos g]
            exact ih (p + 1) who most _ (by omega) (by omega) hmo hf2
          · rw [if_neg g, if_neg g]
            exact ih (p + 1) (p : Int) _ _ (by omega) (by omega) (by omega) hf2
        · rw [if_neg f, if_neg (show ¬ (p ≠ i ∧ l ≤ μ (10 + 2 + p) 2) by omega)]
          exact ih (p + 1) who most ν (by omega) (by omega) hmo hf
theorem borrow5 (N : Nat) (hN : 200 ≤ N) {μ : mm} (a1 : relO 10 1 μ) (a2 : okR μ 1) (a3 : μ 1 1 ≤ 999) (n : Nat) (hn : n ≤ 99) (m : Nat) (hm : (m : Int) = μ 1 0) (i : Nat) (hi : i < m) (l : Int) (hl : 1 ≤ l ∧ μ (10 + 2 + i) 2 + l ≤ 99) : ∀ (k p : Nat) (who most : Int) (ν : mm), p ≤ m → m < p + k → (0 ≤ most ∧ most ≤ 4000) → (∀ a, a ≠ 2 → ν a = μ a) →
    ∃ ν', L5_borrow_50 N k (i : Int) (n : Int) l who most (p : Int) ν = some (boZ (boF n (fun j => μ (10 + 2 + j)) i l) (fun p => p ≠ i ∧ l ≤ μ (10 + 2 + p) 2) (m - p) p who most, ν') ∧ ∀ a, a ≠ 2 → ν' a = μ a := by
  have h8 := a2.1
  have hi8 : i < 8 := by omega
  have hqi : okP (μ (10 + 2 + i)) := offP a1 a2 (by omega)
  have hqi2 := hqi.2.2.1
  have g1 := thn_in hqi (v := μ (10 + 2 + i) 2 + l) (by omega) n
  have g2 := thn_in hqi hqi2 n
  intro k
  induction k with
  | zero => intro p who most ν h1 h2; omega
  | succ k ih =>
    intro p who most ν h1 h2 hmo hf
    have e1 := hf 1 (by decide)
    have e10 : ν 1 0 = (m : Int) := by rw [e1, hm]
    rw [L5_borrow_50, e10, if_pos (show inR (p : Int) ∧ inR (m : Int) by omega)]
    by_cases c : (m : Int) ≤ (p : Int)
    · rw [if_pos c, show m - p = 0 by omega]
      exact ⟨ν, rfl, hf⟩
    · have hp8 : p < 8 := by omega
      have hq : okP (μ (10 + 2 + p)) := offP a1 a2 (by omega)
      have hq2 := hq.2.2.1
      have h61 : at6 ν 1 p (μ (10 + 2 + p)) := by intro k hk; rw [e1]; exact a1.2.2.2.2 p (by omega) k hk
      rw [if_neg c, if_pos (show inR l by omega), if_neg (show ¬ l ≤ 0 by omega), if_pos (show inR (p : Int) ∧ inR (i : Int) by omega), show m - p = (m - (p + 1)) + 1 by omega, boZ]
      simp only [J5_borrow_211, bnd]
      by_cases d : (p : Int) = (i : Int)
      · rw [if_pos d, if_neg (show ¬ (p ≠ i ∧ l ≤ μ (10 + 2 + p) 2) by omega)]
        exact ih (p + 1) who most ν (by omega) (by omega) hmo hf
      · rw [if_neg d, if_pos (ixg hp8 (by decide))]
        simp only [ix2]
        rw [h61 2 (by decide), if_pos (show inR (μ (10 + 2 + p) 2) ∧ inR l by omega)]
        by_cases f : l ≤ μ (10 + 2 + p) 2
        · have t1 := thn_in hq (v := μ (10 + 2 + p) 2 - l) (by omega) n
          have t2 := thn_in hq hq2 n
          obtain ⟨s1, s2, s3, s4, s5, s6⟩ := cpS a1 a2 e1
          have D : ∀ a, a ≠ 2 → days 2 n (cp 1 2 ν) a = μ a := fun a h => (funext fun b => days_c h n).trans ((cp_row h).trans (hf a h))
          have d6 : ∀ j, j < m → at6 (days 2 n (cp 1 2 ν)) 2 j (dayI n (μ (10 + 2 + j))) := fun j hj => days_at (by omega) (s6 j (by omega)) n
          have d1 : ∀ j, j < m → at6 (days 2 n (cp 1 2 ν)) 1 j (μ (10 + 2 + j)) := fun j hj => by
            intro k hk
            rw [D 1 (by decide)]
            exact a1.2.2.2.2 j (by omega) k hk
          have T1 := M5_throughOf_eq N hi8 (d6 i hi) (d1 i hi)
          have T2 := M5_throughOf_eq N hp8 (d6 p (by omega)) (d1 p (by omega))
          generalize hχ : days 2 n (cp 1 2 ν) = χ at D T1 T2
          obtain ⟨r1, r2, r3, r4, r5, r6⟩ := cpS a1 a2 (D 1 (by decide))
          have hpi : p ≠ i := by omega
          have c6 := r6 p (by omega)
          have okp := okP_has hq (show 0 ≤ μ (10 + 2 + p) 2 - l ∧ μ (10 + 2 + p) 2 - l ≤ 99 by omega)
          have oki := okP_has hqi (show 0 ≤ μ (10 + 2 + i) 2 + l ∧ μ (10 + 2 + i) 2 + l ≤ 99 by omega)
          have i6 : at6 (putP (cp 1 2 χ) 2 p (fu (μ (10 + 2 + p)) 2 (μ (10 + 2 + p) 2 - l))) 2 i (μ (10 + 2 + i)) := putP_ne (r6 i (by omega)) (fun z => hpi z.symm)
          have okZ := okR_putP (p := i) (okR_putP (p := p) r1 okp) oki
          have Z6p : at6 (putP (putP (cp 1 2 χ) 2 p (fu (μ (10 + 2 + p)) 2 (μ (10 + 2 + p) 2 - l))) 2 i (fu (μ (10 + 2 + i)) 2 (μ (10 + 2 + i) 2 + l))) 2 p (fu (μ (10 + 2 + p)) 2 (μ (10 + 2 + p) 2 - l)) := putP_ne putP_at hpi
          have Z6i : at6 (putP (putP (cp 1 2 χ) 2 p (fu (μ (10 + 2 + p)) 2 (μ (10 + 2 + p) 2 - l))) 2 i (fu (μ (10 + 2 + i)) 2 (μ (10 + 2 + i) 2 + l))) 2 i (fu (μ (10 + 2 + i)) 2 (μ (10 + 2 + i) 2 + l)) := putP_at
          have Z0 : putP (putP (cp 1 2 χ) 2 p (fu (μ (10 + 2 + p)) 2 (μ (10 + 2 + p) 2 - l))) 2 i (fu (μ (10 + 2 + i)) 2 (μ (10 + 2 + i) 2 + l)) 2 0 = μ 1 0 := by rw [putP_lo (by decide), putP_lo (by decide), r2]
          have Z1 : putP (putP (cp 1 2 χ) 2 p (fu (μ (10 + 2 + p)) 2 (μ (10 + 2 + p) 2 - l))) 2 i (fu (μ (10 + 2 + i)) 2 (μ (10 + 2 + i) 2 + l)) 2 1 = μ 1 1 := by rw [putP_lo (by decide), putP_lo (by decide), r3]
          have Zr : ∀ a, a ≠ 2 → putP (putP (cp 1 2 χ) 2 p (fu (μ (10 + 2 + p)) 2 (μ (10 + 2 + p) 2 - l))) 2 i (fu (μ (10 + 2 + i)) 2 (μ (10 + 2 + i) 2 + l)) a = μ a := fun a h => by rw [putP_row h, putP_row h, cp_row h, D a h]
          have E : mu (mu (cp 1 2 χ) 2 (4 + 6 * p + 2) (μ (10 + 2 + p) 2 - l)) 2 (4 + 6 * i + 2) (mu (cp 1 2 χ) 2 (4 + 6 * p + 2) (μ (10 + 2 + p) 2 - l) 2 (4 + 6 * i + 2) + l) = putP (putP (cp 1 2 χ) 2 p (fu (μ (10 + 2 + p)) 2 (μ (10 + 2 + p) 2 - l))) 2 i (fu (μ (10 + 2 + i)) 2 (μ (10 + 2 + i) 2 + l)) := by
            rw [set2 c6, i6 2 (by decide), set2 i6]
          rw [if_pos f, if_pos (show p ≠ i ∧ l ≤ μ (10 + 2 + p) 2 by omega), M5_takes_eq N (by omega) (okR_congr a2 e1) (by rw [e1]; exact a3) n hn, Option.bind_some, hχ, T1, Option.bind_some, T2, Option.bind_some, M5_copies_eq N 1 2 (by omega) (by decide), Option.bind_some, if_pos (ixg hp8 (by decide)), if_pos (ixg hp8 (by decide)), if_pos (ixg hi8 (by decide)), if_pos (ixg hi8 (by decide)), c6 2 (by decide), E]
          generalize putP (putP (cp 1 2 χ) 2 p (fu (μ (10 + 2 + p)) 2 (μ (10 + 2 + p) 2 - l))) 2 i (fu (μ (10 + 2 + i)) 2 (μ (10 + 2 + i) 2 + l)) = ζ at okZ Z6p Z6i Z0 Z1 Zr
          have D' : ∀ a, a ≠ 2 → days 2 n ζ a = μ a := fun a h => (funext fun b => days_c h n).trans (Zr a h)
          have d1' : ∀ j, j < m → at6 (days 2 n ζ) 1 j (μ (10 + 2 + j)) := fun j hj => by
            intro k hk
            rw [D' 1 (by decide)]
            exact a1.2.2.2.2 j (by omega) k hk
          have U1 := M5_throughOf_eq N hi8 (days_at (by omega) Z6i n) (d1' i hi)
          have U2 := M5_throughOf_eq N hp8 (days_at (by omega) Z6p n) (d1' p (by omega))
          rw [M5_daysOn_eq N 2 (by omega) okZ n (by omega) (by omega), Option.bind_some, U1, Option.bind_some, U2, Option.bind_some]
          have eW : ((dayI n (fu (μ (10 + 2 + i)) 2 (μ (10 + 2 + i) 2 + l)) 4 - μ (10 + 2 + i) 4) + (dayI n (fu (μ (10 + 2 + p)) 2 (μ (10 + 2 + p) 2 - l)) 4 - μ (10 + 2 + p) 4)) - ((dayI n (μ (10 + 2 + i)) 4 - μ (10 + 2 + i) 4) + (dayI n (μ (10 + 2 + p)) 4 - μ (10 + 2 + p) 4)) = boF n (fun j => μ (10 + 2 + j)) i l p := by
            unfold boF thn
            dsimp only
            rw [fu_self, fu_self]
            omega
          have hF : -4000 ≤ boF n (fun j => μ (10 + 2 + j)) i l p ∧ boF n (fun j => μ (10 + 2 + j)) i l p ≤ 4000 := by
            unfold boF
            dsimp only
            omega
          rw [eW, if_pos (show inR (boF n (fun j => μ (10 + 2 + j)) i l p) ∧ inR most by omega)]
          by_cases g : boF n (fun j => μ (10 + 2 + j)) i l p ≤ most
          · rw [if_neg (show ¬ most < boF n (fun j => μ (10 + 2 + j)) i l p by omega), if_pos g]
            exact ih (p + 1) who most _ (by omega) (by omega) hmo D'
          · rw [if_pos (show most < boF n (fun j => μ (10 + 2 + j)) i l p by omega), if_neg g]
            exact ih (p + 1) (p : Int) _ _ (by omega) (by omega) (by omega) D'
        · rw [if_neg f, if_neg (show ¬ (p ≠ i ∧ l ≤ μ (10 + 2 + p) 2) by omega)]
          exact ih (p + 1) who most ν (by omega) (by omega) hmo hf
theorem boZ_congr {f f' : Nat → Int} {g g' : Nat → Prop} [DecidablePred g] [DecidablePred g'] (m : Nat) (e : ∀ p, p < m → f p = f' p ∧ (g p ↔ g' p)) : ∀ k p who most, p + k ≤ m → boZ f g k p who most = boZ f' g' k p who most := by
  intro k
  induction k with
  | zero => intro p who most _; rfl
  | succ k ih =>
    intro p who most hp
    rw [boZ, boZ, (e p (by omega)).1, ih (p + 1) _ _ (by omega), ih (p + 1) _ _ (by omega)]
    by_cases c : g p
    · rw [if_pos c, if_pos ((e p (by omega)).2.mp c)]
    · rw [if_neg c, if_neg (fun z => c ((e p (by omega)).2.mpr z))]
theorem borrow50_0 (N k : Nat) {ν : mm} (h8 : 0 ≤ ν 1 0 ∧ ν 1 0 ≤ 8) (i n : Int) : L5_borrow_50 N (k + 1) i n 0 (-9) 0 0 ν = some (-9, ν) := by
  rw [L5_borrow_50, if_pos (show inR (0 : Int) ∧ inR (ν 1 0) by omega), if_pos (show inR (0 : Int) by decide), if_pos (show (0 : Int) ≤ 0 by decide), ite_self]
theorem op_borrow (N : Nat) (hN : 200 ≤ N) {μ : mm} (R : Rel μ) {p n : Int} (hp : inR p) (hn : inR n) : Op (M4_borrow N p n) (M5_borrow N p n) μ := by
  obtain ⟨⟨a1, a2, a3⟩, -⟩ := id R
  have hm := a2.1
  have hu := unkZ_in μ p
  have ho := outZ_in n 1 30
  have g19 : ∀ (ν : mm) (c : Int), -6 ≤ c ∧ c ≤ -1 → J5_borrow_19 N p n c ν = M5_no N c ν := by
    intro ν c hc
    simp only [J5_borrow_19]
    rw [if_pos (show inR c from by omega), if_neg (show ¬ c = 0 by omega), rf5 N (by omega)]
  by_cases k : unkZ μ p = 0
  · have kk := unkZ_0 k
    obtain ⟨i, rfl⟩ := Int.eq_ofNat_of_zero_le kk.1
    have hi : i < 8 := by omega
    have h6 := a1.2.2.2.2 i kk.2
    have hq := offP a1 a2 kk.2
    have hq2 := hq.2.2.1
    have hl := lackZ_in hq
    have hh := lackZ_has hq
    by_cases o : outZ n 1 30 = 0
    · have oo := outZ_0 o
      obtain ⟨j, rfl⟩ := Int.eq_ofNat_of_zero_le (show 0 ≤ n by omega)
      obtain ⟨m, hmm⟩ := Int.eq_ofNat_of_zero_le hm.1
      have e4 : M4_borrow N (i : Int) (j : Int) μ = if lackZ (μ (10 + 2 + i)) = 0 then some (-9, μ) else ((M4_throughMore N (i : Int) (μ (10 + 2 + i) 2 + lackZ (μ (10 + 2 + i))) (j : Int) μ).bind fun (q13 : (Int × mm)) => (M4_throughMore N (i : Int) (μ (10 + 2 + i) 2) (j : Int) q13.2).bind fun (q14 : (Int × mm)) => L4_borrow_103 N N (i : Int) (j : Int) (lackZ (μ (10 + 2 + i))) (q13.1 - q14.1) (-9) 0 0 q14.2) := by
        simp only [M4_borrow, bnd]
        rw [M4_unknown_eq N hp a1 a2, Option.bind_some, M4_outside_eq N hn (by decide) (by decide), Option.bind_some, M4_firstOf_eq N hu ho, Option.bind_some, fst0 k o, if_pos (by decide), if_pos rfl, M1_at_eq N 10 i hi, Option.bind_some, if_pos (kdo (Or.inl rfl) hi), Option.bind_some, if_pos (kdo (Or.inl rfl) hi), M2_lacking_eq N _ hq, Option.bind_some, if_pos (show inR (lackZ (μ (10 + 2 + i))) by omega), if_pos (show inR (μ (10 + 2 + i) 2 + lackZ (μ (10 + 2 + i))) by omega), if_pos hh]
      have e5 : ∀ ν : mm, ν 1 = μ 1 → M5_borrow N (i : Int) (j : Int) ν = L5_borrow_50 N N (i : Int) (j : Int) (lackZ (μ (10 + 2 + i))) (-9) 0 0 ν := by
        intro ν r1
        have eL := M5_lacksIn_eq N 1 i ν hi (fun k hk => by rw [r1]; exact h6 k hk) hq
        simp only [M5_borrow, J5_borrow_19]
        rw [M5_isOne_eq N hp (okR_congr a2 r1), Option.bind_some, r1, if_pos kk, if_pos (by decide), if_neg (by decide), M5_wrongBy_eq N hn (by decide) (by decide), Option.bind_some, o, if_pos (by decide), if_pos rfl, eL, Option.bind_some]
        rfl
      by_cases z : lackZ (μ (10 + 2 + i)) = 0
      · refine Op_same R (r := -9) (by rw [e4, if_pos z]) ?_
        rw [e5 μ rfl, z]
        have := borrow50_0 N (N - 1) hm (i : Int) (j : Int)
        rw [show N - 1 + 1 = N by omega] at this
        exact this
      · obtain ⟨T, eT⟩ := throughMore_eq N hi (ν := μ) rfl hq (has := μ (10 + 2 + i) 2 + lackZ (μ (10 + 2 + i))) (by omega) j (by omega) hN
        have hf1 : ∀ a, a ≠ 43 → putC μ 43 T a = μ a := fun a h => putC_row h
        obtain ⟨T', eT'⟩ := throughMore_eq N hi (hf1 (10 + 2 + i) (by omega)) hq (has := μ (10 + 2 + i) 2) hq2 j (by omega) hN
        have hf2 : ∀ a, a ≠ 43 → putC (putC μ 43 T) 43 T' a = μ a := fun a h => (putC_row h).trans (hf1 a h)
        obtain ⟨μ1, L4, f4⟩ := borrow4 N hN a1 a2 j (by omega) m hmm.symm i (by omega) (lackZ (μ (10 + 2 + i))) (by omega) N 0 (-9) 0 _ (by omega) (by omega) (by decide) hf2
        obtain ⟨b1, b2⟩ := rel_of43 a1 a2 f4
        have r1 := f4 1 (by decide)
        have hpp : ∀ i : Nat, (i : Int) < μ 1 0 → μ1 (10 + 2 + i) = μ (10 + 2 + i) := fun i hi => f4 _ (by omega)
        have hpi := hpp i kk.2
        obtain ⟨μ2, L5, f5⟩ := borrow5 N hN (μ := μ1) b1 b2 (by rw [r1]; exact a3) j (by omega) m (by rw [r1]; exact hmm.symm) i (by omega) (lackZ (μ (10 + 2 + i))) (by rw [hpi]; omega) N 0 (-9) 0 μ1 (by omega) (by omega) (by decide) (fun _ _ => rfl)
        rw [boZ_congr m (f' := boF j (fun j => μ (10 + 2 + j)) i (lackZ (μ (10 + 2 + i)))) (g' := fun p => p ≠ i ∧ lackZ (μ (10 + 2 + i)) ≤ μ (10 + 2 + p) 2) (fun p hp => by
          unfold boF
          dsimp only
          rw [hpp p (by omega), hpi]
          exact ⟨rfl, Iff.rfl⟩) _ _ _ _ (by omega), show ((0 : Nat) : Int) = 0 from rfl] at L5
        rw [show ((0 : Nat) : Int) = 0 from rfl] at L4
        refine ⟨boZ (boF j (fun j => μ (10 + 2 + j)) i (lackZ (μ (10 + 2 + i)))) (fun p => p ≠ i ∧ lackZ (μ (10 + 2 + i)) ≤ μ (10 + 2 + p) 2) (m - 0) 0 (-9) 0, μ1, μ2, ?_, ?_, Rel_m R (fun a h43 h2 h4 => (f5 a h2).trans (f4 a h43))⟩
        · rw [e4, if_neg z, eT, Option.bind_some]
          dsimp only
          rw [eT', Option.bind_some]
          exact L4
        · rw [e5 μ1 r1]
          exact L5
    · refine Op_ref N R (c := outZ n 1 30) (by omega) ?_ (fun ν hν => ?_)
      · simp only [M4_borrow]
        rw [M4_unknown_eq N hp a1 a2, Option.bind_some, M4_outside_eq N hn (by decide) (by decide), Option.bind_some, M4_firstOf_eq N hu ho, Option.bind_some, fst2 k o, if_pos (show inR (outZ n 1 30) from by omega), if_neg o, rf4 N ho]
      · have r1 : ν 1 = μ 1 := by rw [hν]; exact r4_c (by decide)
        simp only [M5_borrow]
        rw [M5_isOne_eq N hp (okR_congr a2 r1), Option.bind_some, r1, if_pos kk, if_pos (by decide), if_neg (by decide), M5_wrongBy_eq N hn (by decide) (by decide), Option.bind_some, g19 ν _ (by omega)]
  · obtain ⟨k1, k2⟩ := unkZ_no k
    refine Op_ref N R (c := -1) (by decide) ?_ (fun ν hν => ?_)
    · simp only [M4_borrow]
      rw [M4_unknown_eq N hp a1 a2, Option.bind_some, M4_outside_eq N hn (by decide) (by decide), Option.bind_some, M4_firstOf_eq N hu ho, Option.bind_some, fst1 k, k1, if_pos (by decide), if_neg (by decide), rf4 N (by decide)]
    · have r1 : ν 1 = μ 1 := by rw [hν]; exact r4_c (by decide)
      simp only [M5_borrow]
      rw [M5_isOne_eq N hp (okR_congr a2 r1), Option.bind_some, r1, if_neg k2, if_pos (by decide), if_pos rfl, g19 ν (-1) (by decide)]
