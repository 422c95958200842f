/-! the reference reads a STATEMENT -/
def dgB (lt : Nat → Int) : Nat → Nat → Bool
  | 0, _ => true
  | d + 1, p => if fitB (lt p) 48 = true then dgB lt d (p + 1) else false
def dgP (lt : Nat → Int) : Nat → Nat → Nat
  | 0, p => p
  | d + 1, p => if fitB (lt p) 48 = true then dgP lt d (p + 1) else p
theorem fit48 {c : Int} : fitB c 48 = true ↔ 48 ≤ c ∧ c ≤ 57 := by
  unfold fitB
  rw [if_pos rfl, decide_eq_true_eq]
theorem fit107 {c : Int} : fitB c 107 = true ↔ 0 ≤ kdZ c := by
  unfold fitB
  rw [if_neg (by decide), if_pos rfl, decide_eq_true_eq]
theorem fit59 {c : Int} : fitB c 59 = true ↔ c = 59 := by
  unfold fitB
  rw [if_neg (by decide), if_neg (by decide), decide_eq_true_eq]
theorem dg_in (lt : Nat → Int) : ∀ d p, p ≤ dgP lt d p ∧ dgP lt d p ≤ p + d ∧ (dgB lt d p = true → dgP lt d p = p + d) := by
  intro d
  induction d with
  | zero => intro p; exact ⟨Nat.le_refl _, Nat.le_refl _, fun _ => rfl⟩
  | succ d ih =>
    intro p
    have := ih (p + 1)
    unfold dgP dgB
    by_cases c : fitB (lt p) 48 = true
    · rw [if_pos c, if_pos c]
      exact ⟨by omega, by omega, fun z => by have := this.2.2 z; omega⟩
    · rw [if_neg c, if_neg c]
      exact ⟨by omega, by omega, fun z => by cases z⟩
theorem dg_add (lt : Nat → Int) (b : Nat) : ∀ a p, dgB lt (a + b) p = (if dgB lt a p = true then dgB lt b (dgP lt a p) else false) ∧ dgP lt (a + b) p = (if dgB lt a p = true then dgP lt b (dgP lt a p) else dgP lt a p) := by
  intro a
  induction a with
  | zero =>
    intro p
    rw [Nat.zero_add]
    exact ⟨rfl, rfl⟩
  | succ a ih =>
    intro p
    have := ih (p + 1)
    rw [show a + 1 + b = (a + b) + 1 by omega]
    show (if fitB (lt p) 48 = true then dgB lt (a + b) (p + 1) else false) = _ ∧ (if fitB (lt p) 48 = true then dgP lt (a + b) (p + 1) else p) = _
    by_cases c : fitB (lt p) 48 = true
    · rw [if_pos c, if_pos c, this.1, this.2]
      rw [show dgB lt (a + 1) p = dgB lt a (p + 1) from if_pos c, show dgP lt (a + 1) p = dgP lt a (p + 1) from if_pos c]
      exact ⟨rfl, rfl⟩
    · rw [if_neg c, if_neg c]
      rw [show dgB lt (a + 1) p = false from if_neg c, show dgP lt (a + 1) p = p from if_neg c]
      exact ⟨rfl, rfl⟩
theorem mt_add (lt : Nat → Int) (r b : Nat) : ∀ a i p, mtB lt r (a + b) i p = (if mtB lt r a i p = true then mtB lt r b (i + a) (mtP lt r a i p) else false) ∧ mtP lt r (a + b) i p = (if mtB lt r a i p = true then mtP lt r b (i + a) (mtP lt r a i p) else mtP lt r a i p) := by
  intro a
  induction a with
  | zero =>
    intro i p
    rw [Nat.zero_add]
    exact ⟨rfl, rfl⟩
  | succ a ih =>
    intro i p
    have := ih (i + 1) (p + 1)
    rw [show i + 1 + a = i + (a + 1) by omega] at this
    rw [show a + 1 + b = (a + b) + 1 by omega]
    show (if fitB (lt p) (sgZ r i) = true then mtB lt r (a + b) (i + 1) (p + 1) else false) = _ ∧ (if fitB (lt p) (sgZ r i) = true then mtP lt r (a + b) (i + 1) (p + 1) else p) = _
    by_cases c : fitB (lt p) (sgZ r i) = true
    · rw [if_pos c, if_pos c, this.1, this.2]
      rw [show mtB lt r (a + 1) i p = mtB lt r a (i + 1) (p + 1) from if_pos c, show mtP lt r (a + 1) i p = mtP lt r a (i + 1) (p + 1) from if_pos c]
      exact ⟨rfl, rfl⟩
    · rw [if_neg c, if_neg c]
      rw [show mtB lt r (a + 1) i p = false from if_neg c, show mtP lt r (a + 1) i p = p from if_neg c]
      exact ⟨rfl, rfl⟩
theorem mt_dg (lt : Nat → Int) (r : Nat) : ∀ d i p, (∀ j, i ≤ j → j < i + d → sgZ r j = 48) → mtB lt r d i p = dgB lt d p ∧ mtP lt r d i p = dgP lt d p := by
  intro d
  induction d with
  | zero => intro i p _; exact ⟨rfl, rfl⟩
  | succ d ih =>
    intro i p h
    have := ih (i + 1) (p + 1) (fun j h1 h2 => h j (by omega) (by omega))
    unfold mtB mtP dgB dgP
    rw [h i (by omega) (by omega), this.1, this.2]
    exact ⟨rfl, rfl⟩
/-- the place of the reference and its numbers may change -/
def frN (k : Nat) (ν ν' : mm) : Prop := (∀ j, j ≠ 10 → ν' 0 j = ν 0 j) ∧ (∀ j, j ≠ k → ν' 8 j = ν 8 j) ∧ ∀ a, a ≠ 0 → a ≠ 8 → ν' a = ν a
def frR (ν ν' : mm) : Prop := (∀ j, j ≠ 10 → ν' 0 j = ν 0 j) ∧ ∀ a, a ≠ 0 → a ≠ 8 → ν' a = ν a
theorem frN.R {k : Nat} {ν ν' : mm} (h : frN k ν ν') : frR ν ν' := ⟨h.1, h.2.2⟩
theorem frR.trans {ν ν' ν'' : mm} (h : frR ν ν') (h' : frR ν' ν'') : frR ν ν'' := ⟨fun j hj => (h'.1 j hj).trans (h.1 j hj), fun a h0 h8 => (h'.2 a h0 h8).trans (h.2 a h0 h8)⟩
theorem TN_fr {n : Nat} {f : Nat → Int} {ν ν' : mm} (T : TN n f ν) (h : frR ν ν') : TN n f ν' := ⟨by rw [h.1 8 (by decide)]; exact T.1, fun j hj => by rw [h.2 5 (by decide) (by decide)]; exact T.2 j hj⟩
theorem readsNumber_loop (N : Nat) {n : Nat} {f : Nat → Int} (F : okF n f) {k0 : Nat} (hk : k0 < 3) (d p0 : Nat) (hd : d ≤ 3) (hp : p0 ≤ 900) : ∀ (k i : Nat) (ν : mm), i ≤ d → d < i + k → TN n f ν → ν 0 10 = ((p0 + i : Nat) : Int) → ν 8 k0 = numZ (ltZ n f) p0 i →
    ∃ ν', L5_readsNumber_9 N k (k0 : Int) (d : Int) (i : Int) ν = some (if dgB (ltZ n f) (d - i) (p0 + i) = true then 1 else 0, ν') ∧ ν' 0 10 = ((dgP (ltZ n f) (d - i) (p0 + i) : Nat) : Int) ∧ (dgB (ltZ n f) (d - i) (p0 + i) = true → ν' 8 k0 = numZ (ltZ n f) p0 d) ∧ frN k0 ν ν' := by
  intro k
  induction k with
  | zero => intro i ν h1 h2; omega
  | succ k ih =>
    intro i ν h1 h2 T e ev
    rw [L5_readsNumber_9, if_pos (show inR (i : Int) ∧ inR (d : Int) by omega)]
    by_cases c : (d : Int) ≤ (i : Int)
    · obtain rfl : i = d := by omega
      rw [if_pos c, show i - i = 0 by omega]
      exact ⟨ν, rfl, e, fun _ => ev, fun _ _ => rfl, fun _ _ => rfl, fun _ _ _ => rfl⟩
    · have h := ltZ_in F (p0 + i)
      rw [if_neg c, here_eq N F T (by omega) e, Option.bind_some, M5_isIn_eq N (show inR (ltZ n f (p0 + i)) by omega) (by decide) (by decide), Option.bind_some, show d - i = (d - (i + 1)) + 1 by omega, dgB, dgP]
      by_cases g : fitB (ltZ n f (p0 + i)) 48 = true
      · have g' := fit48.mp g
        rw [if_pos g', if_pos (by decide), if_neg (by decide), if_pos (show 0 ≤ (k0 : Int) ∧ (k0 : Int) < 3 by omega), Option.bind_some, if_pos (show 0 ≤ (k0 : Int) ∧ (k0 : Int) < 3 by omega), if_pos g, if_pos g]
        simp only [bnd, Int.toNat_natCast]
        obtain ⟨ν', e', e10, e8, fr⟩ := ih (i + 1) (mu (mu ν 8 k0 (10 * ν 8 k0 + ltZ n f (p0 + i) - 48)) 0 10 (mu ν 8 k0 (10 * ν 8 k0 + ltZ n f (p0 + i) - 48) 0 10 + 1)) (by omega) (by omega) ⟨by rw [mu_j (by decide), mu_c (by decide)]; exact T.1, fun j hj => by rw [mu_c (by decide), mu_c (by decide)]; exact T.2 j hj⟩ (by rw [mu_s, mu_c (by decide), e]; omega) (by rw [mu_c (by decide), mu_s, ev]; rfl)
        refine ⟨ν', e', e10, e8, fun j hj => ?_, fun j hj => ?_, fun a h0 h8 => ?_⟩
        · rw [fr.1 j hj, mu_j hj, mu_c (by decide)]
        · rw [fr.2.1 j hj, mu_c (by decide), mu_j hj]
        · rw [fr.2.2 a h0 h8, mu_row h0, mu_row h8]
      · rw [if_neg (fun z => g (fit48.mpr z)), if_pos (by decide), if_pos rfl, if_neg g, if_neg g]
        exact ⟨ν, rfl, e, fun z => (by cases z), fun _ _ => rfl, fun _ _ => rfl, fun _ _ _ => rfl⟩
theorem readsNumber_eq (N : Nat) (hN : 200 ≤ N) {n : Nat} {f : Nat → Int} (F : okF n f) {k0 : Nat} (hk : k0 < 3) (d p : Nat) (hd : d ≤ 3) (hp : p ≤ 900) {ν : mm} (T : TN n f ν) (e : ν 0 10 = (p : Int)) :
    ∃ ν', M5_readsNumber N (k0 : Int) (d : Int) ν = some (if dgB (ltZ n f) d p = true then 1 else 0, ν') ∧ ν' 0 10 = ((dgP (ltZ n f) d p : Nat) : Int) ∧ (dgB (ltZ n f) d p = true → ν' 8 k0 = numZ (ltZ n f) p d) ∧ frN k0 ν ν' := by
  obtain ⟨ν', e', e10, e8, fr⟩ := readsNumber_loop N F hk d p hd hp N 0 (mu ν 8 k0 0) (by omega) (by omega) ⟨by rw [mu_c (by decide)]; exact T.1, fun j hj => by rw [mu_c (by decide)]; exact T.2 j hj⟩ (by rw [mu_c (by decide), e]; rfl) mu_s
  refine ⟨ν', ?_, e10, e8, fun j hj => ?_, fun j hj => ?_, fun a h0 h8 => ?_⟩
  · unfold M5_readsNumber
    rw [if_pos (show 0 ≤ (k0 : Int) ∧ (k0 : Int) < 3 by omega)]
    simp only [bnd, Int.toNat_natCast]
    exact e'
  · rw [fr.1 j hj, mu_c (by decide)]
  · rw [fr.2.1 j hj, mu_j hj]
  · rw [fr.2.2 a h0 h8, mu_row h8]
theorem readsKind_eq (N : Nat) {n : Nat} {f : Nat → Int} (F : okF n f) (p : Nat) (hp : p ≤ 900) {ν : mm} (T : TN n f ν) (e : ν 0 10 = (p : Int)) :
    ∃ ν', M5_readsKind N ν = some (if fitB (ltZ n f p) 107 = true then 1 else 0, ν') ∧ ν' 0 10 = (((if fitB (ltZ n f p) 107 = true then p + 1 else p) : Nat) : Int) ∧ (fitB (ltZ n f p) 107 = true → ν' 8 0 = kdZ (ltZ n f p)) ∧ frN 0 ν ν' := by
  have h := ltZ_in F p
  have hk := kdZ_in (ltZ n f p)
  unfold M5_readsKind J5_readsKind_32
  rw [here_eq N F T (by omega) e, Option.bind_some, kindBy_eq N h, Option.bind_some]
  simp only [bnd]
  by_cases g : fitB (ltZ n f p) 107 = true
  · have g' := fit107.mp g
    rw [if_neg (show ¬ kdZ (ltZ n f p) < 0 by omega)]
    simp only [mu_s, mu_c (show 0 ≠ 8 by decide), mu_c (show 8 ≠ 0 by decide)]
    rw [if_pos (show inR (kdZ (ltZ n f p)) by omega), if_pos g', if_pos (show inR (kdZ (ltZ n f p)) by omega), if_neg (show ¬ kdZ (ltZ n f p) < 0 by omega), if_pos g, if_pos g]
    refine ⟨_, rfl, by rw [mu_s, e]; omega, fun _ => by rw [mu_c (by decide), mu_s], fun j hj => by rw [mu_j hj, mu_c (by decide)], fun j hj => by rw [mu_c (by decide), mu_j hj], fun a h0 h8 => by rw [mu_row h0, mu_row h8]⟩
  · have g' : kdZ (ltZ n f p) < 0 := by
      by_cases q : kdZ (ltZ n f p) < 0
      · exact q
      · exact absurd (fit107.mpr (by omega)) g
    rw [if_pos g']
    simp only [mu_s, mu_c (show 0 ≠ 8 by decide), mu_c (show 8 ≠ 0 by decide)]
    rw [if_pos (show inR (-9 : Int) by decide), if_neg (show ¬ (0 : Int) ≤ -9 by decide), if_pos (show inR (-9 : Int) by decide), if_pos (show (-9 : Int) < 0 by decide), if_neg g, if_neg g]
    refine ⟨_, rfl, by rw [mu_s, e]; omega, fun z => absurd z g, fun j hj => by rw [mu_j hj, mu_c (by decide)], fun j hj => by rw [mu_c (by decide), mu_j hj], fun a h0 h8 => by rw [mu_row h0, mu_row h8]⟩
/-- ";" behind what was read -/
theorem reads59 (N : Nat) {n : Nat} {f : Nat → Int} (F : okF n f) (q : Nat) (hq : q ≤ 900) {ν : mm} (T : TN n f ν) (e : ν 0 10 = (q : Int)) :
    J5_readsStatement_207 N 0 ν = some (0, ν) ∧ ∃ ν', J5_readsStatement_207 N 1 ν = some (if fitB (ltZ n f q) 59 = true then 1 else 0, ν') ∧ ν' 0 10 = (((if fitB (ltZ n f q) 59 = true then q + 1 else q) : Nat) : Int) ∧ (∀ j, j ≠ 10 → ν' 0 j = ν 0 j) ∧ ∀ a, a ≠ 0 → ν' a = ν a := by
  have h := ltZ_in F q
  refine ⟨rfl, ?_⟩
  unfold J5_readsStatement_207
  rw [if_pos (by decide), if_neg (by decide), here_eq N F T (by omega) e, Option.bind_some, if_pos (show inR (ltZ n f q) by omega)]
  simp only [bnd]
  by_cases g : fitB (ltZ n f q) 59 = true
  · rw [if_pos (fit59.mp g), if_pos g, if_pos g]
    exact ⟨_, rfl, by rw [mu_s, e]; omega, fun j hj => mu_j hj, fun a h0 => mu_row h0⟩
  · rw [if_neg (fun z => g (fit59.mpr z)), if_neg g, if_neg g]
    exact ⟨_, rfl, e, fun _ _ => rfl, fun _ _ => rfl⟩
theorem st_dg (lt : Nat → Int) (p r d : Nat) (hr : stR lt p = r) (h64 : r ≠ 64) (hl : lnZ r = d + 1) (h48 : ∀ j, j < d → sgZ r j = 48) (h59 : sgZ r d = 59) :
    stB lt p = (if dgB lt d (p + 1) = true then fitB (lt (dgP lt d (p + 1))) 59 else false) ∧ stP lt p = (if dgB lt d (p + 1) = true then (if fitB (lt (dgP lt d (p + 1))) 59 = true then dgP lt d (p + 1) + 1 else dgP lt d (p + 1)) else dgP lt d (p + 1)) := by
  have a := mt_add lt r 1 d 0 (p + 1)
  have b := mt_dg lt r d 0 (p + 1) (fun j _ h2 => h48 j (by omega))
  unfold stB stP
  rw [hr, if_neg h64, if_neg h64, hl, a.1, a.2, b.1, b.2]
  unfold mtB mtP
  rw [Nat.zero_add, h59]
  unfold mtB mtP
  refine ⟨?_, rfl⟩
  by_cases c : dgB lt d (p + 1) = true
  · rw [if_pos c, if_pos c]
    cases fitB (lt (dgP lt d (p + 1))) 59 <;> rfl
  · rw [if_neg c, if_neg c]
theorem st_p (lt : Nat → Int) (p : Nat) (hr : stR lt p = 60) :
    stB lt p = (if fitB (lt (p + 1)) 107 = true then (if dgB lt 3 (p + 2) = true then fitB (lt (dgP lt 3 (p + 2))) 59 else false) else false) ∧ stP lt p = (if fitB (lt (p + 1)) 107 = true then (if dgB lt 3 (p + 2) = true then (if fitB (lt (dgP lt 3 (p + 2))) 59 = true then dgP lt 3 (p + 2) + 1 else dgP lt 3 (p + 2)) else dgP lt 3 (p + 2)) else p + 1) := by
  have a := mt_add lt 60 1 3 1 (p + 2)
  have b := mt_dg lt 60 3 1 (p + 2) (fun j h1 h2 => by
    have : j = 1 ∨ j = 2 ∨ j = 3 := by omega
    rcases this with rfl | rfl | rfl <;> decide +kernel)
  have s0 : sgZ 60 0 = 107 := by decide +kernel
  have s4 : sgZ 60 4 = 59 := by decide +kernel
  unfold stB stP
  rw [hr, if_neg (show ¬ (60 : Nat) = 64 by decide), if_neg (show ¬ (60 : Nat) = 64 by decide), show lnZ 60 = (3 + 1) + 1 from rfl]
  rw [mtB, mtP, s0, show p + 1 + 1 = p + 2 by omega, show 0 + 1 = 1 from rfl, a.1, a.2, b.1, b.2, show 1 + 3 = 4 from rfl]
  unfold mtB mtP
  rw [s4]
  unfold mtB mtP
  refine ⟨?_, rfl⟩
  by_cases k : fitB (lt (p + 1)) 107 = true
  · rw [if_pos k, if_pos k]
    by_cases c : dgB lt 3 (p + 2) = true
    · rw [if_pos c, if_pos c]
      cases fitB (lt (dgP lt 3 (p + 2))) 59 <;> rfl
    · rw [if_neg c, if_neg c]
  · rw [if_neg k, if_neg k]
/-- the numbers, as they stand behind a STATEMENT -/
def numsZ (lt : Nat → Int) (p : Nat) (ν : mm) : Prop :=
  (lt p = 112 → ν 8 0 = kdZ (lt (p + 1)) ∧ ν 8 1 = numZ lt (p + 2) 1 ∧ ν 8 2 = numZ lt (p + 3) 2) ∧ ((lt p = 105 ∨ lt p = 117) → ν 8 0 = numZ lt (p + 1) 1 ∧ ν 8 1 = numZ lt (p + 2) 2) ∧ (lt p = 114 → ν 8 0 = numZ lt (p + 1) 1) ∧ (lt p = 103 → ν 8 0 = numZ lt (p + 1) 3) ∧ (lt p = 100 → ν 8 0 = numZ lt (p + 1) 2)
def RS (N : Nat) (lt : Nat → Int) (p : Nat) (ν : mm) (x : Option (Int × mm)) : Prop := ∃ ν', x = some (if stB lt p = true then 1 else 0, ν') ∧ ν' 0 10 = ((stP lt p : Nat) : Int) ∧ (stB lt p = true → numsZ lt p ν') ∧ frR ν ν'
/-- one number alone -/
theorem reads_one (N : Nat) (hN : 200 ≤ N) {n : Nat} {f : Nat → Int} (F : okF n f) (p r d : Nat) (hp : p ≤ 200) (hd : d ≤ 3) (hr : stR (ltZ n f) p = r) (h64 : r ≠ 64) (hl : lnZ r = d + 1) (h48 : ∀ j, j < d → sgZ r j = 48) (h59 : sgZ r d = 59) {ν : mm} (T : TN n f ν) (e : ν 0 10 = ((p + 1 : Nat) : Int)) (hn : ∀ ν' : mm, ν' 8 0 = numZ (ltZ n f) (p + 1) d → numsZ (ltZ n f) p ν') :
    RS N (ltZ n f) p ν ((M5_readsNumber N 0 (d : Int) ν).bind fun (q : Int × mm) => J5_readsStatement_207 N q.1 q.2) := by
  obtain ⟨sB, sP⟩ := st_dg (ltZ n f) p r d hr h64 hl h48 h59
  have hi := dg_in (ltZ n f) d (p + 1)
  obtain ⟨ν1, e1, t1, v1, f1⟩ := readsNumber_eq N hN F (k0 := 0) (by decide) d (p + 1) hd (by omega) T e
  rw [show ((0 : Nat) : Int) = 0 from rfl] at e1
  obtain ⟨z0, ν2, z1, t2, g1, g2⟩ := reads59 N F (dgP (ltZ n f) d (p + 1)) (by omega) (TN_fr T f1.R) t1
  unfold RS
  rw [e1, Option.bind_some]
  dsimp only
  by_cases b : dgB (ltZ n f) d (p + 1) = true
  · rw [if_pos b] at sB sP
    rw [if_pos b, sB, sP]
    refine ⟨ν2, z1, t2, fun _ => hn ν2 (by rw [g2 8 (by decide)]; exact v1 b), f1.R.trans ⟨g1, fun a h0 _ => g2 a h0⟩⟩
  · rw [if_neg b] at sB sP
    rw [if_neg b, sB, sP, if_neg (by decide)]
    exact ⟨ν1, z0, t1, fun z => (by cases z), f1.R⟩
/-- two numbers -/
theorem reads_two (N : Nat) (hN : 200 ≤ N) {n : Nat} {f : Nat → Int} (F : okF n f) (p : Nat) (hp : p ≤ 200) (hr : stR (ltZ n f) p = 61) {ν : mm} (T : TN n f ν) (e : ν 0 10 = ((p + 1 : Nat) : Int)) (hn : ∀ ν' : mm, ν' 8 0 = numZ (ltZ n f) (p + 1) 1 → ν' 8 1 = numZ (ltZ n f) (p + 2) 2 → numsZ (ltZ n f) p ν') :
    RS N (ltZ n f) p ν ((M5_readsNumber N 0 1 ν).bind fun (q20 : (Int × mm)) => if inR q20.1 then (if q20.1 = 0 then (J5_readsStatement_160 N q20.2) else ((M5_readsNumber N 1 2 q20.2).bind fun (q22 : (Int × mm)) => if inR q22.1 then (if q22.1 = 0 then (J5_readsStatement_160 N q22.2) else (J5_readsStatement_161 N 1 q22.2)) else none)) else none) := by
  obtain ⟨sB, sP⟩ := st_dg (ltZ n f) p 61 3 hr (by decide) rfl (fun j hj => by
    have : j = 0 ∨ j = 1 ∨ j = 2 := by omega
    rcases this with rfl | rfl | rfl <;> decide +kernel) (by decide +kernel)
  obtain ⟨dB, dP⟩ := dg_add (ltZ n f) 2 1 (p + 1)
  rw [show 1 + 2 = 3 from rfl] at dB dP
  have hi := dg_in (ltZ n f) 1 (p + 1)
  obtain ⟨ν1, e1, t1, v1, f1⟩ := readsNumber_eq N hN F (k0 := 0) (by decide) 1 (p + 1) (by decide) (by omega) T e
  rw [show ((0 : Nat) : Int) = 0 from rfl, show ((1 : Nat) : Int) = 1 from rfl] at e1
  obtain ⟨y0, -⟩ := reads59 N F (dgP (ltZ n f) 1 (p + 1)) (by omega) (TN_fr T f1.R) t1
  unfold RS
  rw [e1, Option.bind_some]
  simp only [J5_readsStatement_160, J5_readsStatement_161]
  by_cases b : dgB (ltZ n f) 1 (p + 1) = true
  · have hi1 := hi.2.2 b
    rw [if_pos b] at dB dP
    rw [dB, dP, hi1] at sB sP
    rw [hi1] at t1
    have hi2 := dg_in (ltZ n f) 2 (p + 1 + 1)
    obtain ⟨ν2, e2, t2, v2, f2⟩ := readsNumber_eq N hN F (k0 := 1) (by decide) 2 (p + 1 + 1) (by decide) (by omega) (TN_fr T f1.R) t1
    rw [show ((1 : Nat) : Int) = 1 from rfl, show ((2 : Nat) : Int) = 2 from rfl] at e2
    obtain ⟨z0, ν3, z1, t3, g1, g2⟩ := reads59 N F (dgP (ltZ n f) 2 (p + 1 + 1)) (by omega) (TN_fr (TN_fr T f1.R) f2.R) t2
    rw [if_pos b, if_pos (by decide), if_neg (by decide), e2, Option.bind_some]
    dsimp only
    by_cases c : dgB (ltZ n f) 2 (p + 1 + 1) = true
    · rw [if_pos c] at sB sP
      rw [if_pos c, if_pos (by decide), if_neg (by decide), sB, sP]
      refine ⟨ν3, z1, t3, fun _ => hn ν3 ?_ ?_, f1.R.trans (f2.R.trans ⟨g1, fun a h0 _ => g2 a h0⟩)⟩
      · rw [g2 8 (by decide), f2.2.1 0 (by decide)]
        exact v1 b
      · rw [g2 8 (by decide)]
        exact v2 c
    · rw [if_neg c] at sB sP
      rw [if_neg c, if_pos (by decide), if_pos rfl, sB, sP, if_neg (by decide)]
      exact ⟨ν2, z0, t2, fun z => (by cases z), f1.R.trans f2.R⟩
  · rw [if_neg b] at dB dP
    rw [dB, dP, if_neg (by decide)] at sB sP
    rw [if_neg b, if_pos (by decide), if_pos rfl, sB, sP, if_neg (by decide)]
    exact ⟨ν1, y0, t1, fun z => (by cases z), f1.R⟩
/-- one of PEOPLE more -/
theorem reads_p (N : Nat) (hN : 200 ≤ N) {n : Nat} {f : Nat → Int} (F : okF n f) (p : Nat) (hp : p ≤ 200) (hr : stR (ltZ n f) p = 60) {ν : mm} (T : TN n f ν) (e : ν 0 10 = ((p + 1 : Nat) : Int)) (hn : ∀ ν' : mm, ν' 8 0 = kdZ (ltZ n f (p + 1)) → ν' 8 1 = numZ (ltZ n f) (p + 2) 1 → ν' 8 2 = numZ (ltZ n f) (p + 3) 2 → numsZ (ltZ n f) p ν') :
    RS N (ltZ n f) p ν ((M5_readsKind N ν).bind fun (q39 : (Int × mm)) => if inR q39.1 then (if q39.1 = 0 then (J5_readsStatement_133 N q39.2) else ((M5_readsNumber N 1 1 q39.2).bind fun (q41 : (Int × mm)) => if inR q41.1 then (if q41.1 = 0 then (J5_readsStatement_133 N q41.2) else ((M5_readsNumber N 2 2 q41.2).bind fun (q43 : (Int × mm)) => if inR q43.1 then (if q43.1 = 0 then (J5_readsStatement_133 N q43.2) else (J5_readsStatement_134 N 1 q43.2)) else none)) else none)) else none) := by
  obtain ⟨sB, sP⟩ := st_p (ltZ n f) p hr
  obtain ⟨dB, dP⟩ := dg_add (ltZ n f) 2 1 (p + 2)
  rw [show 1 + 2 = 3 from rfl] at dB dP
  obtain ⟨ν0, e0, t0, v0, f0⟩ := readsKind_eq N F (p + 1) (by omega) T e
  unfold RS
  rw [e0, Option.bind_some]
  simp only [J5_readsStatement_133, J5_readsStatement_134]
  by_cases a : fitB (ltZ n f (p + 1)) 107 = true
  · rw [if_pos a] at sB sP t0
    rw [if_pos a, if_pos (by decide), if_neg (by decide)]
    have hi := dg_in (ltZ n f) 1 (p + 2)
    obtain ⟨ν1, e1, t1, v1, f1⟩ := readsNumber_eq N hN F (k0 := 1) (by decide) 1 (p + 2) (by decide) (by omega) (TN_fr T f0.R) t0
    rw [show ((1 : Nat) : Int) = 1 from rfl] at e1
    obtain ⟨y0, -⟩ := reads59 N F (dgP (ltZ n f) 1 (p + 2)) (by omega) (TN_fr (TN_fr T f0.R) f1.R) t1
    rw [e1, Option.bind_some]
    dsimp only
    by_cases b : dgB (ltZ n f) 1 (p + 2) = true
    · have hi1 := hi.2.2 b
      rw [if_pos b] at dB dP
      rw [dB, dP, hi1] at sB sP
      rw [hi1] at t1
      have hi2 := dg_in (ltZ n f) 2 (p + 2 + 1)
      obtain ⟨ν2, e2, t2, v2, f2⟩ := readsNumber_eq N hN F (k0 := 2) (by decide) 2 (p + 2 + 1) (by decide) (by omega) (TN_fr (TN_fr T f0.R) f1.R) t1
      rw [show ((2 : Nat) : Int) = 2 from rfl] at e2
      obtain ⟨z0, ν3, z1, t3, g1, g2⟩ := reads59 N F (dgP (ltZ n f) 2 (p + 2 + 1)) (by omega) (TN_fr (TN_fr (TN_fr T f0.R) f1.R) f2.R) t2
      rw [if_pos b, if_pos (by decide), if_neg (by decide), e2, Option.bind_some]
      dsimp only
      by_cases c : dgB (ltZ n f) 2 (p + 2 + 1) = true
      · rw [if_pos c] at sB sP
        rw [if_pos c, if_pos (by decide), if_neg (by decide), sB, sP]
        refine ⟨ν3, z1, t3, fun _ => hn ν3 ?_ ?_ ?_, f0.R.trans (f1.R.trans (f2.R.trans ⟨g1, fun a h0 _ => g2 a h0⟩))⟩
        · rw [g2 8 (by decide), f2.2.1 0 (by decide), f1.2.1 0 (by decide)]
          exact v0 a
        · rw [g2 8 (by decide), f2.2.1 1 (by decide)]
          exact v1 b
        · rw [g2 8 (by decide)]
          exact v2 c
      · rw [if_neg c] at sB sP
        rw [if_neg c, if_pos (by decide), if_pos rfl, sB, sP, if_neg (by decide)]
        exact ⟨ν2, z0, t2, fun z => (by cases z), f0.R.trans (f1.R.trans f2.R)⟩
    · rw [if_neg b] at dB dP
      rw [dB, dP, if_neg (by decide)] at sB sP
      rw [if_neg b, if_pos (by decide), if_pos rfl, sB, sP, if_neg (by decide)]
      exact ⟨ν1, y0, t1, fun z => (by cases z), f0.R.trans f1.R⟩
  · rw [if_neg a] at sB sP t0
    obtain ⟨y0, -⟩ := reads59 N F (p + 1) (by omega) (TN_fr T f0.R) t0
    rw [if_neg a, if_pos (by decide), if_pos rfl, sB, sP, if_neg (by decide)]
    exact ⟨ν0, y0, t0, fun z => (by cases z), f0.R⟩
