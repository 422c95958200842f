/-! counter -/
theorem gwZ_end (lt : Nat → Int) {n p : Nat} (h : n ≤ p) : ∀ k, gwZ lt n k p = -1 ∧ cnZ lt n k p = 0 := by
  intro k
  cases k with
  | zero => exact ⟨rfl, rfl⟩
  | succ k => exact ⟨if_pos h, if_pos h⟩
theorem frR_refl (ν : mm) : frR ν ν := ⟨fun _ _ => rfl, fun _ _ _ => rfl⟩
/-- the reference's first pass -/
theorem first10 (N : Nat) (hN : 200 ≤ N) {n : Nat} {f : Nat → Int} (F : okF n f) : ∀ (k p : Nat) (cnt : Int) (ν : mm), p < n → n + 7 < p + k → TN n f ν → ν 0 10 = (p : Int) →
    ∃ (ν' : mm) (c' : Int), L5_counter_10 N k cnt (-9) ν = J5_counter_46 N c' (if gwZ (ltZ n f) n k p < 0 then -9 else -1000 - gwZ (ltZ n f) n k p) ν' ∧ (gwZ (ltZ n f) n k p < 0 → c' = cnt + cnZ (ltZ n f) n k p) ∧ frR ν ν' := by
  have hn := F.1
  intro k
  induction k with
  | zero => intro p cnt ν h1 h2; omega
  | succ k ih =>
    intro p cnt ν h1 h2 T e
    have hs := stP_in N (ltZ n f) p
    obtain ⟨ν1, e1, t1, -, g1⟩ := readsStatement_eq N hN F p (by omega) T e
    have T1 := TN_fr T g1
    rw [L5_counter_10, e1, Option.bind_some]
    dsimp only
    rw [gwZ, if_neg (show ¬ n ≤ p by omega), cnZ, if_neg (show ¬ n ≤ p by omega)]
    simp only [bnd, J5_counter_26]
    by_cases b : stB (ltZ n f) p = true
    · have hb := hs.2.2 b
      rw [if_pos b, if_pos (by decide), if_neg (by decide), if_pos (show inR (-9 : Int) by decide), if_pos trivial, if_pos b, T1.1, t1, if_pos (show inR ((stP (ltZ n f) p : Nat) : Int) ∧ inR (n : Int) by omega)]
      by_cases c : stP (ltZ n f) p < n
      · rw [if_pos (show ((stP (ltZ n f) p : Nat) : Int) < (n : Int) by omega)]
        obtain ⟨ν', c', e2, e3, g2⟩ := ih (stP (ltZ n f) p) (cnt + 1) ν1 c (by omega) T1 t1
        exact ⟨ν', c', e2, fun z => by rw [e3 z]; omega, g1.trans g2⟩
      · obtain ⟨z1, z2⟩ := gwZ_end (ltZ n f) (show n ≤ stP (ltZ n f) p by omega) k
        rw [if_neg (show ¬ ((stP (ltZ n f) p : Nat) : Int) < (n : Int) by omega), z1, z2, if_pos (by decide)]
        exact ⟨ν1, cnt + 1, rfl, fun _ => by omega, g1⟩
    · rw [if_neg b, if_pos (by decide), if_pos rfl, t1, if_pos (show inR (-1000 - ((stP (ltZ n f) p : Nat) : Int)) by omega), if_neg (show ¬ -1000 - ((stP (ltZ n f) p : Nat) : Int) = -9 by omega), if_neg b, if_neg (show ¬ ((stP (ltZ n f) p : Nat) : Int) < 0 by omega)]
      exact ⟨ν1, cnt + 1, rfl, fun z => by omega, g1⟩
theorem tk_relX {o a r : Nat} {ξ ν : mm} (X : relX a r ξ ν) (hm : 0 ≤ ν r 0 ∧ ν r 0 ≤ 8) : relX o r (tkN o a (ξ a 2).toNat ξ) ν := by
  obtain ⟨x1, x2, x3, x4, x5⟩ := X
  refine ⟨by rw [tkN_sc (by decide)]; exact x1, by rw [tkN_sc (by decide)]; exact x2, by rw [tkN_sc (by decide)]; exact x3, by rw [tkN_sc (by decide)]; exact x4, fun p hp k hk => ?_⟩
  rw [tkN_at (by omega) hk]
  exact x5 p hp k hk
theorem lengthAt_eq (N : Nat) {n : Nat} {f : Nat → Int} {ξ : mm} (F : okF n f) (T : TX n f ξ) (p : Nat) (hp : p ≤ 1000) : M3_lengthAt N (p : Int) ξ = some (1 + (lnZ (stR (ltZ n f) p) : Int)) := by
  have h := ltZ_in F p
  have hr := behZ_in (ltZ n f p)
  unfold M3_lengthAt
  rw [letterAt_eq N F T p hp, Option.bind_some, behind_eq N (show inR (ltZ n f p) by omega), Option.bind_some, if_pos (show 60 ≤ behZ (ltZ n f p) ∧ behZ (ltZ n f p) < 66 by omega), (lnZ_len N hr ξ).1, Option.bind_some]
  rfl
/-- what the second passes leave -/
def rdE (r cntE : Int) (ξ ξ' ν ν' : mm) : Prop :=
  (0 ≤ r → r = cntE ∧ relX 10 1 ξ' ν' ∧ okR ν' 1 ∧ ν' 1 1 ≤ 999) ∧ (r < 0 → (∀ a, a < 21 → ξ' a = ξ a) ∧ ∀ j, j < 52 → ν' 1 j = ν 4 j) ∧ ν' 0 8 = 0 ∧ (∀ a, a ≠ 10 → (a < 12 ∨ 19 < a) → a ≠ 21 → (a < 23 ∨ 31 ≤ a) → ξ' a = ξ a) ∧ (∀ j, j ≠ 8 → j ≠ 10 → ν' 0 j = ν 0 j) ∧ ∀ a, a ≠ 0 → a ≠ 1 → a ≠ 8 → ν' a = ν a
theorem read33 (N : Nat) (hN : 200 ≤ N) {n : Nat} {f : Nat → Int} (F : okF n f) (tot : Int) : ∀ (k p cnt : Nat) (ξ ν : mm), p ≤ n + 6 → n + 7 < p + k → cnt ≤ p → wfZ (ltZ n f) n k p → TX n f ξ → relX 21 1 ξ ν → okR ν 1 → ν 1 1 ≤ 999 → (∀ k, k < 6 → ξ 31 k = 0) → TN n f ν → ν 0 10 = (p : Int) →
    ∃ (r : Int) (ξ' ν' : mm), L4_read_33 N k (cnt : Int) (p : Int) ξ = some (r, ξ') ∧ L5_counter_62 N k tot (-9) ν = some (if r < 0 then r else tot, ν') ∧ rdE r ((cnt : Int) + cnZ (ltZ n f) n k p) ξ ξ' ν ν' := by
  have hn := F.1
  intro k
  induction k with
  | zero => intro p cnt ξ ν h1 h2; omega
  | succ k ih =>
    intro p cnt ξ ν h1 h2 hc hw T X ok hd h31 TN0 e
    have hm := ok.1
    have x1 := X.1
    rw [L4_read_33, L5_counter_62, T.1, TN0.1, e, if_pos (show inR (p : Int) ∧ inR (n : Int) by omega), if_pos (show inR (-9 : Int) by decide), if_pos rfl, if_pos (show inR (p : Int) ∧ inR (n : Int) by omega), cnZ]
    by_cases c : n ≤ p
    · rw [if_pos (show (n : Int) ≤ (p : Int) by omega), if_pos (show (n : Int) ≤ (p : Int) by omega), if_pos c]
      simp only [J4_read_81, J5_counter_128, bnd]
      rw [M1_takeFrom_eq N (Or.inl rfl) (Or.inr (Or.inl rfl)) (by decide) (by omega) (by omega), Option.bind_some, if_pos (show inR (-9 : Int) by decide), if_pos trivial]
      refine ⟨(cnt : Int), _, mu ν 0 8 0, rfl, by rw [if_neg (show ¬ (cnt : Int) < 0 by omega)], fun _ => ⟨by omega, ?_, ?_, ?_⟩, fun z => by omega, mu_s, fun a h10 h12 h21 h23 => tkN_c h10 (by omega), fun j h8 h10 => mu_j h8, fun a h0 h1 h8 => mu_row h0⟩
      · exact relX_congr (tk_relX X hm) hm.2 rfl (fun _ _ => rfl) (fun j _ => mu_c (by decide))
      · exact okR_congr ok (mu_row (by decide))
      · rw [mu_c (by decide)]
        exact hd
    · rcases hw with hw | ⟨b, hw⟩
      · exact absurd hw c
      have hs := stP_in N (ltZ n f) p
      have hb := hs.2.2 b
      obtain ⟨ν1, e1, t1, v1, g1⟩ := readsStatement_eq N hN F p (by omega) TN0 e
      have r1 : ν1 1 = ν 1 := g1.2 1 (by decide) (by decide)
      have X1 : relX 21 1 ξ ν1 := relX_congr X hm.2 rfl (fun _ _ => rfl) (fun j _ => by rw [r1])
      obtain ⟨r0, ξ1, ν2, z1, z2, z3, z4, z5, z6⟩ := comes_eq N hN F p (by omega) T X1 (okR_congr ok r1) (by rw [r1]; exact hd) h31 b (v1 b)
      rw [if_pos b] at e1
      rw [if_neg (show ¬ (n : Int) ≤ (p : Int) by omega), if_neg (show ¬ (n : Int) ≤ (p : Int) by omega), if_neg c, if_pos (show inR (cnt : Int) by omega), if_neg (show ¬ 96 ≤ (cnt : Int) by omega), z1, Option.bind_some]
      simp only [bnd]
      rw [here_eq N F TN0 (by omega) e, Option.bind_some, e1, Option.bind_some]
      dsimp only
      rw [z2, Option.bind_some]
      dsimp only
      rcases z3 with rfl | rfl
      · obtain ⟨k2, rfl⟩ : ∃ k2, k = k2 + 1 := ⟨k - 1, by omega⟩
        rw [if_pos (by decide), if_pos rfl, if_pos (by decide), if_pos rfl, M5_copies_eq N 4 1 (by omega) (by decide), Option.bind_some, L5_counter_62, if_pos (show inR (-2000 - (p : Int)) by omega), if_neg (show ¬ -2000 - (p : Int) = -9 by omega)]
        simp only [J5_counter_128, bnd]
        rw [if_pos (show inR (-2000 - (p : Int)) by omega), if_neg (show ¬ -2000 - (p : Int) = -9 by omega)]
        refine ⟨-2000 - (p : Int), ξ1, _, rfl, by rw [if_pos (show -2000 - (p : Int) < 0 by omega)], fun z => by omega, fun _ => ⟨fun a ha => z5 a (by omega) (by omega), fun j hj => ?_⟩, mu_s, fun a h10 h12 h21 h23 => z5 a h21 h23, fun j h8 h10 => ?_, fun a h0 h1 h8 => ?_⟩
        · rw [mu_c (by decide), cp_to hj, z6 4 (by decide), g1.2 4 (by decide) (by decide)]
        · rw [mu_j h8, cp_c (by decide), z6 0 (by decide), g1.1 j h10]
        · rw [mu_row h0, cp_row h1, z6 a h1, g1.2 a h0 h8]
      · obtain ⟨y1, y2, y3⟩ := z4 rfl
        have TX1 : TX n f ξ1 := ⟨by rw [z5 44 (by decide) (by decide)]; exact T.1, fun j hj => by rw [z5 45 (by decide) (by decide)]; exact T.2 j hj⟩
        have TN2 : TN n f ν2 := ⟨by rw [z6 0 (by decide), g1.1 8 (by decide)]; exact TN0.1, fun j hj => by rw [z6 5 (by decide), g1.2 5 (by decide) (by decide)]; exact TN0.2 j hj⟩
        obtain ⟨r, ξ', ν', a1, a2, b1, b2, b3, b4, b5, b6⟩ := ih (stP (ltZ n f) p) (cnt + 1) ξ1 ν2 (by omega) (by omega) (by omega) hw TX1 y1 y2 y3 (fun k hk => by rw [z5 31 (by decide) (by decide)]; exact h31 k hk) TN2 (by rw [z6 0 (by decide)]; exact t1)
        rw [if_pos (by decide), if_neg (by decide), if_pos (by decide), if_neg (by decide), lengthAt_eq N F TX1 p (by omega), Option.bind_some]
        rw [show (p : Int) + (1 + (lnZ (stR (ltZ n f) p) : Int)) = ((stP (ltZ n f) p : Nat) : Int) by omega]
        refine ⟨r, ξ', ν', a1, a2, fun z => ?_, fun z => ?_, b3, fun a h10 h12 h21 h23 => (b4 a h10 h12 h21 h23).trans (z5 a h21 h23), fun j h8 h10 => ?_, fun a h0 h1 h8 => ?_⟩
        · obtain ⟨q1, q2⟩ := b1 z
          exact ⟨by omega, q2⟩
        · obtain ⟨q1, q2⟩ := b2 z
          exact ⟨fun a ha => (q1 a ha).trans (z5 a (by omega) (by omega)), fun j hj => by rw [q2 j hj, z6 4 (by decide), g1.2 4 (by decide) (by decide)]⟩
        · rw [b5 j h8 h10, z6 0 (by decide), g1.1 j h10]
        · rw [b6 a h0 h1 h8, z6 a h1, g1.2 a h0 h8]
theorem Rel_cnt {μ ν : mm} (R : Rel μ) (h : relO 10 1 ν ∧ okR ν 1 ∧ ν 1 1 ≤ 999) (h44 : ν 44 1 = 0) (h8 : ν 0 8 = 0) (hc : ∀ a, a ≠ 0 → a ≠ 1 → a ≠ 10 → a ≠ 44 → (a < 12 ∨ 19 < a) → scr a = false → ν a = μ a) (h0 : ∀ j, j ≠ 8 → j ≠ 10 → ν 0 j = μ 0 j) : Rel ν := by
  obtain ⟨-, ⟨b1, b2⟩, -, ⟨d1, d2, d3⟩, e, f⟩ := R
  have k3 := hc 3 (by decide) (by decide) (by decide) (by decide) (by decide) (by decide)
  have k6 := hc 6 (by decide) (by decide) (by decide) (by decide) (by decide) (by decide)
  have k7 := hc 7 (by decide) (by decide) (by decide) (by decide) (by decide) (by decide)
  have k9 := hc 9 (by decide) (by decide) (by decide) (by decide) (by decide) (by decide)
  have k46 := hc 46 (by decide) (by decide) (by decide) (by decide) (by decide) (by decide)
  have k47 := hc 47 (by decide) (by decide) (by decide) (by decide) (by decide) (by decide)
  have k32 := hc 32 (by decide) (by decide) (by decide) (by decide) (by decide) (by decide)
  have k20 := hc 20 (by decide) (by decide) (by decide) (by decide) (by decide) (by decide)
  have k31 := hc 31 (by decide) (by decide) (by decide) (by decide) (by decide) (by decide)
  have k42 := hc 42 (by decide) (by decide) (by decide) (by decide) (by decide) (by decide)
  have hpi : ∀ p, p < 8 → ν (32 + 2 + p) = μ (32 + 2 + p) := fun p hp => hc _ (by omega) (by omega) (by omega) (by omega) (by omega) (by revert p; decide)
  refine ⟨h, ⟨by rw [k9, h0 4 (by decide) (by decide)]; exact b1, ?_⟩, ⟨by rw [h44, h8], by rw [h8]; decide, fun j hj => by rw [h8] at hj; omega⟩, ⟨by rw [k9, h0 9 (by decide) (by decide)]; exact d1, by rw [h0 9 (by decide) (by decide)]; exact d2, fun j hj => ?_⟩, fun j h1 h6 => ?_, fun q hk => ?_⟩
  · rw [h0 4 (by decide) (by decide)]
    rcases b2 with b | ⟨b, b3, b4, b5⟩
    · exact Or.inl b
    · exact Or.inr ⟨b, relO_congr b3 k32 k3 hpi b4.1.2, okR_congr b4 k3, by rw [k3]; exact b5⟩
  · rw [h0 9 (by decide) (by decide)] at hj
    rw [k46, k6]
    exact d3 j hj
  · rw [k47, k7]
    exact e j h1 h6
  · rw [k20, k31, k42]
    exact f q hk
/-- a FAULT of the first kind: the reference's end -/
theorem fault46 (N : Nat) (hN : 200 ≤ N) (c' g : Int) (hg : -1200 ≤ g ∧ g ≤ -1000) (ν : mm) : J5_counter_46 N c' g ν = some (g, mu (mu (cp 1 4 ν) 0 10 0) 0 8 0) := by
  obtain ⟨k, rfl⟩ : ∃ k, N = k + 1 := ⟨N - 1, by omega⟩
  simp only [J5_counter_46, bnd]
  rw [M5_copies_eq (k + 1) 1 4 (by omega) (by decide), Option.bind_some, L5_counter_62, if_pos (show inR g by omega), if_neg (show ¬ g = -9 by omega)]
  simp only [J5_counter_128, bnd]
  rw [if_pos (show inR g by omega), if_neg (show ¬ g = -9 by omega)]
theorem op_counter (N : Nat) (hN : 300 ≤ N) {μ : mm} (R : Rel μ) : Op (M4_counter N) (M5_counter N) μ := by
  obtain ⟨⟨a1, a2, a3⟩, -, ⟨c1, c2, c3⟩, -, -, hnob⟩ := id R
  have hm := a2.1
  obtain ⟨n, hn⟩ := Int.eq_ofNat_of_zero_le c2.1
  have F : okF n (μ 5) := ⟨by omega, fun j hj => (c3 j (by omega)).2⟩
  have T : TX n (μ 5) μ := ⟨by rw [c1, hn], fun j hj => (c3 j (by omega)).1⟩
  have TNof : ∀ ν : mm, ν 0 8 = μ 0 8 → ν 5 = μ 5 → TN n (μ 5) ν := fun ν h8 h5 => ⟨by rw [h8, hn], fun j _ => by rw [h5]⟩
  -- the wrong letter
  have eW : M3_firstWrong N μ = some (if n = 0 then 0 else gwZ (ltZ n (μ 5)) n N 0) := by
    unfold M3_firstWrong
    rw [T.1, if_pos (show inR (n : Int) by omega)]
    by_cases z : n = 0
    · rw [if_pos (show (n : Int) = 0 by omega), if_pos z]
    · rw [if_neg (show ¬ (n : Int) = 0 by omega), if_neg z]
      exact wrong11 N (by omega) F T N 0 (by omega) (by omega)
  have hG := gwZ_in (ltZ n (μ 5)) n N 0
  -- the reference's first pass from a memory like mine
  have ref1 : ∀ ν : mm, ν 0 8 = μ 0 8 → ν 5 = μ 5 → ∃ (ν' : mm) (c' : Int), M5_counter N ν = J5_counter_46 N c' (if n = 0 then -1000 else if gwZ (ltZ n (μ 5)) n N 0 < 0 then -9 else -1000 - gwZ (ltZ n (μ 5)) n N 0) ν' ∧ (n ≠ 0 → gwZ (ltZ n (μ 5)) n N 0 < 0 → c' = cnZ (ltZ n (μ 5)) n N 0) ∧ frR ν ν' := by
    intro ν h8 h5
    have T0 : TN n (μ 5) (mu ν 0 10 0) := TNof _ (by rw [mu_j (by decide)]; exact h8) (by rw [mu_row (by decide)]; exact h5)
    have fr0 : frR ν (mu ν 0 10 0) := ⟨fun j hj => mu_j hj, fun a h0 _ => mu_row h0⟩
    unfold M5_counter
    simp only [bnd]
    by_cases z : n = 0
    · obtain ⟨k, hk⟩ : ∃ k, N = k + 1 := ⟨N - 1, by omega⟩
      obtain ⟨ν1, e1, t1, -, g1⟩ := readsStatement_eq N (by omega) F 0 (by omega) T0 mu_s
      have hr : stR (ltZ n (μ 5)) 0 = 64 := by
        show behZ (ltZ n (μ 5) 0) = 64
        rw [show ltZ n (μ 5) 0 = -1 from if_neg (by omega)]
        rfl
      have sB : stB (ltZ n (μ 5)) 0 = false := if_pos hr
      have sP : stP (ltZ n (μ 5)) 0 = 0 := if_pos hr
      rw [sB, if_neg (by decide)] at e1
      rw [sP] at t1
      have go : L5_counter_10 N (k + 1) 0 (-9) (mu ν 0 10 0) = J5_counter_46 N (0 + 1) (-1000) ν1 := by
        rw [L5_counter_10, e1, Option.bind_some]
        simp only [bnd, J5_counter_26]
        rw [if_pos (by decide), if_pos trivial, t1, if_pos (by decide), if_neg (by decide)]
        rfl
      rw [← hk] at go
      rw [if_pos z]
      exact ⟨ν1, 0 + 1, go, fun y => absurd z y, fr0.trans g1⟩
    · obtain ⟨ν', c', e1, e2, g1⟩ := first10 N (by omega) F N 0 0 (mu ν 0 10 0) (by omega) (by omega) T0 mu_s
      rw [if_neg z]
      exact ⟨ν', c', e1, fun _ y => by rw [e2 y]; omega, fr0.trans g1⟩
  by_cases w : n ≠ 0 ∧ gwZ (ltZ n (μ 5)) n N 0 < 0
  · obtain ⟨w1, w2⟩ := w
    have wf := gw_wf (ltZ n (μ 5)) n N 0 w2
    have Xm := mindT_X a1 a2
    have mc : ∀ x, x ≠ 21 → (x < 23 ∨ 31 ≤ x) → mindT μ x = μ x := fun x h1 h2 => mindT_c a1 a2 h1 h2
    have Tm : TX n (μ 5) (mindT μ) := ⟨by rw [mc 44 (by decide) (by decide)]; exact T.1, fun j hj => by rw [mc 45 (by decide) (by decide)]; exact T.2 j hj⟩
    have go := fun (tot : Int) (ν : mm) (h1 : ν 1 = μ 1) (h8 : ν 0 8 = μ 0 8) (h5 : ν 5 = μ 5) (h10 : ν 0 10 = 0) => read33 N (by omega) F tot N 0 0 (mindT μ) ν (by omega) (by omega) (Nat.le_refl _) wf Tm (relX_congr Xm hm.2 rfl (fun _ _ => rfl) (fun j _ => by rw [h1])) (okR_congr a2 h1) (by rw [h1]; exact a3) (fun k hk => by rw [mc 31 (by decide) (by decide)]; exact (hnob k hk).2.1) (TNof ν h8 h5) h10
    obtain ⟨r, ξ', νv, eC, -, hE⟩ := go 0 (mu (cp 1 4 μ) 0 10 0) (by rw [mu_row (by decide), cp_row (by decide)]) (by rw [mu_j (by decide), cp_c (by decide)]) (by rw [mu_row (by decide), cp_row (by decide)]) mu_s
    rw [show ((0 : Nat) : Int) = 0 from rfl] at eC
    have fx : ∀ a, a ≠ 10 → (a < 12 ∨ 19 < a) → a ≠ 21 → (a < 23 ∨ 31 ≤ a) → ξ' a = μ a := fun a h10 h12 h21 h23 => (hE.2.2.2.1 a h10 h12 h21 h23).trans (mc a h21 h23)
    have e4 : M4_counter N μ = some (r, mu ξ' 44 1 0) := by
      simp only [M4_counter, M4_read, bnd]
      rw [eW, Option.bind_some, if_neg w1, if_pos (show inR (gwZ (ltZ n (μ 5)) n N 0) by omega), if_pos w2, mind_eq N (by omega) a1 a2, Option.bind_some, eC, Option.bind_some]
    obtain ⟨νa, c', f1, f2, fa⟩ := ref1 (mu ξ' 44 1 0) (by rw [mu_c (by decide), fx 0 (by decide) (by decide) (by decide) (by decide)]) (by rw [mu_row (by decide), fx 5 (by decide) (by decide) (by decide) (by decide)])
    have na : ∀ a, a ≠ 0 → a ≠ 8 → a ≠ 44 → νa a = ξ' a := fun a h0 h8 h44 => (fa.2 a h0 h8).trans (mu_row h44)
    have n0 : ∀ j, j ≠ 10 → νa 0 j = μ 0 j := fun j hj => by rw [fa.1 j hj, mu_c (by decide), fx 0 (by decide) (by decide) (by decide) (by decide)]
    have ra : νa 1 = μ 1 := by rw [na 1 (by decide) (by decide) (by decide), fx 1 (by decide) (by decide) (by decide) (by decide)]
    obtain ⟨r2, ξ2, νf, eC2, eR, hE2⟩ := go c' (mu (cp 1 4 νa) 0 10 0) (by rw [mu_row (by decide), cp_row (by decide), ra]) (by rw [mu_j (by decide), cp_c (by decide), n0 8 (by decide)]) (by rw [mu_row (by decide), cp_row (by decide), na 5 (by decide) (by decide) (by decide), fx 5 (by decide) (by decide) (by decide) (by decide)]) mu_s
    rw [show ((0 : Nat) : Int) = 0 from rfl, eC] at eC2
    obtain ⟨rfl, rfl⟩ : r = r2 ∧ ξ' = ξ2 := by
      have := Option.some.inj eC2
      exact ⟨congrArg Prod.fst this, congrArg Prod.snd this⟩
    obtain ⟨q1, q2, q3, q4, q5, q6⟩ := hE2
    have cf := f2 w1 w2
    have ans : (if r < 0 then r else c') = r := by
      by_cases z : r < 0
      · rw [if_pos z]
      · have := (q1 (by omega)).1
        rw [if_neg z]
        omega
    have nf : ∀ a, a ≠ 0 → a ≠ 1 → a ≠ 4 → a ≠ 8 → a ≠ 44 → νf a = ξ' a := fun a h0 h1 h4 h8 h44 => by rw [q6 a h0 h1 h8, mu_row h0, cp_row h4, na a h0 h8 h44]
    refine ⟨r, mu ξ' 44 1 0, νf, e4, ?_, Rel_cnt R ?_ ?_ q3 (fun a h0 h1 h10 h44 h12 hs => ?_) (fun j h8 h10 => ?_)⟩
    · rw [f1, if_neg w1, if_pos w2]
      simp only [J5_counter_46, bnd]
      rw [M5_copies_eq N 1 4 (by omega) (by decide), Option.bind_some, eR, ans]
    · by_cases z : r < 0
      · obtain ⟨y1, y2⟩ := q2 z
        have y3 : ∀ j, j < 52 → νf 1 j = μ 1 j := fun j hj => by rw [y2 j hj, mu_c (by decide), cp_to hj, ra]
        have y4 : ∀ a, 9 < a → a < 21 → νf a = μ a := fun a h1 h2 => by rw [nf a (by omega) (by omega) (by omega) (by omega) (by omega), y1 a h2, mc a (by omega) (by omega)]
        have X0 : relX 10 1 μ μ := a1
        exact ⟨relX_congr X0 hm.2 (y4 10 (by decide) (by decide)) (fun p hp => y4 _ (by omega) (by omega)) y3, okR_row a2 y3, by rw [y3 1 (by decide)]; exact a3⟩
      · obtain ⟨-, y1, y2, y3⟩ := q1 (by omega)
        exact ⟨relX_congr y1 y2.1.2 (nf 10 (by decide) (by decide) (by decide) (by decide) (by decide)) (fun p hp => nf _ (by omega) (by omega) (by omega) (by omega) (by omega)) (fun _ _ => rfl), y2, y3⟩
    · rw [q6 44 (by decide) (by decide) (by decide), mu_c (by decide), cp_c (by decide), fa.2 44 (by decide) (by decide), mu_s]
    · have := scr_ne hs
      rw [nf a h0 h1 (by omega) (by omega) h44]
      exact fx a h10 h12 (by omega) (by omega)
    · rw [q5 j h8 h10, mu_j h10, cp_c (by decide), n0 j h10]
  · have hG2 : ∃ g : Int, g = (if n = 0 then 0 else gwZ (ltZ n (μ 5)) n N 0) ∧ 0 ≤ g ∧ g ≤ 110 ∧ (if n = 0 then -1000 else if gwZ (ltZ n (μ 5)) n N 0 < 0 then -9 else -1000 - gwZ (ltZ n (μ 5)) n N 0) = -1000 - g := by
      refine ⟨_, rfl, ?_⟩
      by_cases z : n = 0
      · rw [if_pos z, if_pos z]
        decide
      · have : ¬ gwZ (ltZ n (μ 5)) n N 0 < 0 := fun y => w ⟨z, y⟩
        rw [if_neg z, if_neg z, if_neg this]
        omega
    obtain ⟨g, hg, hg0, hg1, hg2⟩ := hG2
    obtain ⟨νa, c', f1, -, fa⟩ := ref1 (mu μ 44 1 0) (mu_c (by decide)) (mu_row (by decide))
    have na : ∀ a, a ≠ 0 → a ≠ 8 → a ≠ 44 → νa a = μ a := fun a h0 h8 h44 => (fa.2 a h0 h8).trans (mu_row h44)
    refine ⟨-1000 - g, mu μ 44 1 0, mu (mu (cp 1 4 νa) 0 10 0) 0 8 0, ?_, ?_, Rel_cnt R ?_ ?_ mu_s (fun a h0 h1 h10 h44 h12 hs => ?_) (fun j h8 h10 => ?_)⟩
    · simp only [M4_counter, M4_read, bnd]
      rw [eW, Option.bind_some, ← hg, if_pos (show inR g by omega), if_neg (show ¬ g < 0 by omega), Option.bind_some]
    · rw [f1, hg2, fault46 N (by omega) c' _ (by omega)]
    · have hr : ∀ a, a ≠ 0 → a ≠ 4 → a ≠ 8 → a ≠ 44 → mu (mu (cp 1 4 νa) 0 10 0) 0 8 0 a = μ a := fun a h0 h4 h8 h44 => by rw [mu_row h0, mu_row h0, cp_row h4, na a h0 h8 h44]
      have r1 := hr 1 (by decide) (by decide) (by decide) (by decide)
      exact ⟨relO_congr a1 (hr 10 (by decide) (by decide) (by decide) (by decide)) r1 (fun p hp => hr _ (by omega) (by omega) (by omega) (by omega)) a2.1.2, okR_congr a2 r1, by rw [r1]; exact a3⟩
    · rw [mu_c (by decide), mu_c (by decide), cp_c (by decide), fa.2 44 (by decide) (by decide), mu_s]
    · have := scr_ne hs
      rw [mu_row h0, mu_row h0, cp_row (by omega), na a h0 (by omega) h44]
    · rw [mu_j h8, mu_j h10, cp_c (by decide), fa.1 j h10, mu_c (by decide)]
