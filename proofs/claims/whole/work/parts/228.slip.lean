theorem okR_putP {ν : mm} {r p : Nat} {q : Nat → Int} (ok : okR ν r) (hq : okP q) : okR (putP ν r p q) r := by
  obtain ⟨o1, o2, o3, o4, o5⟩ := ok
  refine ⟨by rw [putP_lo (by decide)]; exact o1, by rw [putP_lo (by decide)]; exact o2, by rw [putP_lo (by decide)]; exact o3, by rw [putP_lo (by decide)]; exact o4, fun p' hp' => ?_⟩
  rw [putP_lo (by decide)] at hp'
  by_cases t : p' = p
  · subst t
    exact okP_congr hq (fun k hk => putP_at k hk)
  · exact okP_congr (o5 p' hp') (fun k hk => putP_ne (pq_at ν r p') t k hk)
theorem putP_row {ν : mm} {r p a : Nat} {q : Nat → Int} (h : a ≠ r) : putP ν r p q a = ν a := funext fun _ => putP_c h
theorem slip134 (N : Nat) (hN : 200 ≤ N) (rec : Int → Int → Int → Int → Int → Int → Int → Int → mm → Option (Int × mm)) {μ : mm} {p : Nat} (hp : p < 8) {q : Nat → Int} (hq : okP q) (h1 : at6 μ 1 p q) (n : Nat) (hn : n ≤ 7) {t v : Int} (ht : 2 ≤ t ∧ t ≤ 20) (hv : 0 ≤ v ∧ v ≤ 9) (w x6 x8 : Int) (x : Nat) (hx : x < 256) :
    ∀ (k i : Nat) (ν : mm), i ≤ n → n < i + k → (∀ a, a ≠ 2 → ν a = μ a) → okR ν 2 → (p : Int) < ν 2 0 → ν 2 1 ≤ 2000 + (i : Int) → at6 ν 2 p (lsI x i q) →
    ∃ ν', L5_slip_134 N rec k (p : Int) (n : Int) t v w x6 x8 (x : Int) (prN (t - 1) x i) (i : Int) ν = rec (p : Int) (n : Int) t v w (x6 + (if thL q n x < v then 0 else prN (t - 1) x n)) x8 ((x : Int) + 1) ν' ∧ ∀ a, a ≠ 2 → ν' a = μ a := by
  intro k
  induction k with
  | zero => intro i ν a1 a2; omega
  | succ k ih =>
    intro i ν a1 a2 hf ok hm hd h6
    have okI := lsI_ok hq x i
    rw [L5_slip_134, if_pos (show inR (i : Int) ∧ inR (n : Int) by omega)]
    by_cases c : (n : Int) ≤ (i : Int)
    · obtain rfl : i = n := by omega
      have h4 := okI.2.2.2.2.1
      have h4' := hq.2.2.2.2.1
      have e : M5_throughOf N 2 (p : Int) ν = some (thL q i x) := by
        unfold M5_throughOf thL
        rw [if_pos (ixg hp (by decide)), if_pos (ixg hp (by decide)), ix4, h6 4 (by decide), hf 1 (by decide), h1 4 (by decide)]
      have ei : inR (thL q i x) := by unfold thL; omega
      rw [if_pos c, e, Option.bind_some, if_pos ⟨ei, by omega⟩]
      simp only [J5_slip_235, bnd]
      by_cases d : thL q i x < v
      · rw [if_pos d, if_pos d]
        exact ⟨ν, rfl, hf⟩
      · rw [if_neg d, if_neg d]
        exact ⟨ν, rfl, hf⟩
    · have day : ∀ Q : Nat → Int, okP Q → Q = lsQ (lsI x i q) (decide (x / 2 ^ i % 2 = 1)) → ∃ ν', (M5_day N 2 (putP ν 2 p Q)).bind (fun (q29 : mm) => L5_slip_134 N rec k (p : Int) (n : Int) t v w x6 x8 (x : Int) (prN (t - 1) x i * (if x / 2 ^ i % 2 = 1 then 1 else (t - 1))) ((i : Int) + 1) q29) = rec (p : Int) (n : Int) t v w (x6 + (if thL q n x < v then 0 else prN (t - 1) x n)) x8 ((x : Int) + 1) ν' ∧ ∀ a, a ≠ 2 → ν' a = μ a := by
        intro Q hQ eQ
        have okp : okR (putP ν 2 p Q) 2 := okR_putP ok hQ
        have e0 : putP ν 2 p Q 2 0 = ν 2 0 := putP_lo (by decide)
        have e1 : putP ν 2 p Q 2 1 = ν 2 1 := putP_lo (by decide)
        rw [M5_day_eq N 2 (by omega) okp, Option.bind_some]
        have a6 : at6 (dayR 2 (putP ν 2 p Q)) 2 p (lsI x (i + 1) q) := by
          show at6 (dayR 2 (putP ν 2 p Q)) 2 p (dayP (lsQ (lsI x i q) (decide (x / 2 ^ i % 2 = 1))))
          rw [← eQ]
          exact dayR_at (by rw [e0]; exact hm) putP_at
        exact ih (i + 1) (dayR 2 (putP ν 2 p Q)) (by omega) (by omega) (fun a h => by rw [dayR_row h, putP_row h, hf a h]) (dayR_ok okp (by rw [e1]; omega)) (by rw [show dayR 2 (putP ν 2 p Q) 2 0 = putP ν 2 p Q 2 0 from dayN_many, e0]; exact hm) (by rw [show dayR 2 (putP ν 2 p Q) 2 1 = putP ν 2 p Q 2 1 + 1 from dayN_day, e1]; omega) a6
      have h2 := okI.2.2.1
      rw [if_neg c, M5_has_eq N x i hx (by omega), Option.bind_some]
      simp only [J5_slip_160, J5_slip_200, bnd]
      rw [M5_has_eq N x i hx (by omega), Option.bind_some]
      by_cases b : x / 2 ^ i % 2 = 1
      · rw [if_pos b, if_pos (by decide), if_neg (by decide), Option.bind_some, if_pos (by decide), if_neg (by decide), if_pos (ixg hp (by decide)), ix2, h6 2 (by decide), if_pos (show inR (lsI x i q 2) by omega)]
        by_cases z : lsI x i q 2 ≤ 0
        · obtain ⟨ν', e, f⟩ := day (lsI x i q) okI (by unfold lsQ; rw [if_neg (fun y => by have := y.2; omega)])
          rw [putP_of h6, if_pos b] at e
          rw [if_pos z]
          exact ⟨ν', e, f⟩
        · have hQ : okP (fu (lsI x i q) 2 (lsI x i q 2 - 1)) := okP_has okI (by omega)
          obtain ⟨ν', e, f⟩ := day (fu (lsI x i q) 2 (lsI x i q 2 - 1)) hQ (by unfold lsQ; rw [if_pos ⟨decide_eq_true b, by omega⟩])
          rw [← putP_mu (by decide), putP_of h6, if_pos b] at e
          rw [if_neg z, if_pos (ixg hp (by decide)), if_pos (ixg hp (by decide))]
          exact ⟨ν', e, f⟩
      · obtain ⟨ν', e, f⟩ := day (lsI x i q) okI (by unfold lsQ; rw [if_neg (fun y => b (of_decide_eq_true y.1))])
        rw [putP_of h6, if_neg b] at e
        rw [if_neg b, if_pos (by decide), if_pos rfl, if_pos (show inR (t - 1) by omega), if_pos (by decide), if_pos rfl]
        exact ⟨ν', e, f⟩
theorem slip5 (N : Nat) (hN : 200 ≤ N) {μ : mm} {p : Nat} (hp : (p : Int) < μ 1 0) (ok : okR μ 1) (hd : μ 1 1 ≤ 999) {q : Nat → Int} (h1 : at6 μ 1 p q) (n : Nat) (hn : n ≤ 7) {t v w : Int} (ht : 2 ≤ t ∧ t ≤ 20) (hv : 0 ≤ v ∧ v ≤ 9) (r : Int) (hr : ∀ ν : mm, M5_partOf N (wyN q n (t - 1) v (2 ^ n)) (t ^ n) w ν = some r) :
    ∀ (k x : Nat) (ν : mm), x ≤ 2 ^ n → 2 ^ n < x + k → (∀ a, a ≠ 2 → ν a = μ a) → ∃ ν', L5_slip_109 N k (p : Int) (n : Int) t v w (wyN q n (t - 1) v x) (t ^ n) (x : Int) ν = some (r, ν') ∧ ∀ a, a ≠ 2 → ν' a = μ a := by
  have hm := ok.1
  have hp8 : p < 8 := by omega
  have hq : okP q := okR_at ok hp h1
  have hP : 2 ^ n ≤ 2 ^ 7 := Nat.pow_le_pow_right (by decide) hn
  have h7 : (2 : Nat) ^ 7 = 128 := by decide
  have eP : (1 * 2 ^ ((n : Nat) : Int).toNat : Int) = ((2 ^ n : Nat) : Int) := by
    rw [Int.one_mul, Int.natCast_pow]
    rfl
  intro k
  induction k with
  | zero => intro x ν h1 h2; omega
  | succ k ih =>
    intro x ν h1' h2 hf
    rw [L5_slip_109, if_pos (show 0 ≤ (n : Int) ∧ (n : Int) < 32 by omega), eP, if_pos (show inR (x : Int) ∧ inR ((2 ^ n : Nat) : Int) by omega)]
    by_cases c : ((2 ^ n : Nat) : Int) ≤ (x : Int)
    · rw [if_pos c, show x = 2 ^ n by omega, hr ν, Option.bind_some]
      exact ⟨ν, rfl, hf⟩
    · have e1 := hf 1 (by decide)
      have okc : okR (cp 1 2 ν) 2 := cp_ok (okR_congr ok e1)
      rw [if_neg c, M5_copies_eq N 1 2 (by omega) (by decide), Option.bind_some]
      obtain ⟨ν1, e, f⟩ := slip134 N hN (L5_slip_109 N k) hp8 hq h1 n hn ht hv w (wyN q n (t - 1) v x) (t ^ n) x (by omega) N 0 (cp 1 2 ν) (by omega) (by omega) (fun a h => by rw [cp_row h, hf a h]) okc (by rw [cp_to (by decide), e1]; exact hp) (by rw [cp_to (by decide), e1]; omega) (cp_at hp8 (by intro k hk; rw [e1]; exact h1 k hk))
      obtain ⟨ν', e', f'⟩ := ih (x + 1) ν1 (by omega) (by omega) f
      exact ⟨ν', e.trans e', f'⟩
