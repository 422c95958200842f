/-! two -/
def wtZ (n : Nat) (Q : Nat → Nat → Int) (p : Nat) (s S : Int) : Int := if s = 1 ∧ lackZ (Q p) ≤ S then wgG n Q p - lackZ (Q p) / 10 else wgB n Q p
def stZ (Q : Nat → Nat → Int) (a : Nat) (s S : Int) : Int := if s = 1 ∧ lackZ (Q a) ≤ S then S - lackZ (Q a) else S
theorem wtZ_in (n : Nat) {Q : Nat → Nat → Int} {p : Nat} (h : okP (Q p)) (s S : Int) : -3 ≤ wtZ n Q p s S ∧ wtZ n Q p s S ≤ 999 := by
  have hl := lackZ_in h
  have hw := wg_in n h
  unfold wtZ
  split <;> omega
theorem stZ_in {Q : Nat → Nat → Int} (a : Nat) (s : Int) {S : Int} (hS : 0 ≤ S ∧ S ≤ 999) : 0 ≤ stZ Q a s S ∧ stZ Q a s S ≤ 999 := by
  have := lackZ_0 (Q a)
  unfold stZ
  split <;> omega
theorem wants4 (N : Nat) {μ ν : mm} (a1 : relO 10 1 μ) (a2 : okR μ 1) (n : Nat) (m : Nat) (hm : (m : Int) = μ 1 0) (hf : ∀ a, a ≠ 43 → a ≠ 48 → a ≠ 49 → ν a = μ a) (hw : ∀ j, j < m → ν 48 j = wgB n (fun i => μ (10 + 2 + i)) j ∧ ν 49 j = wgG n (fun i => μ (10 + 2 + i)) j) (p : Nat) (hp : p < m) {s S : Int} (hs : inR s) (hS : inR S) : M4_wants N (p : Int) s S ν = some (wtZ n (fun i => μ (10 + 2 + i)) p s S) := by
  have h8 := a2.1
  have hp8 : p < 8 := by omega
  have hq : okP (μ (10 + 2 + p)) := offP a1 a2 (by omega)
  have hl := lackZ_in hq
  have ep : ν (10 + 2 + p) = μ (10 + 2 + p) := hf _ (by omega) (by omega) (by omega)
  have hwp := hw p hp
  unfold M4_wants
  simp only [J4_wants_28, J4_wants_29]
  rw [M1_at_eq N 10 p hp8, Option.bind_some, if_pos (kdo (Or.inl rfl) hp8), M2_lacking_eq N _ (by rw [ep]; exact hq), Option.bind_some, ep, if_pos hs, if_pos (show inR (lackZ (μ (10 + 2 + p))) ∧ inR S by omega), weighed0 N hp8, weighed1 N hp8, Option.bind_some, Option.bind_some, if_pos (show inR (0 : Int) by decide), if_pos trivial, if_pos (show inR (1 : Int) by decide), if_neg (show ¬ (1 : Int) = 0 by decide), if_pos (show 0 ≤ lackZ (μ (10 + 2 + p)) ∧ inR (lackZ (μ (10 + 2 + p))) by omega), hwp.1, hwp.2]
  unfold wtZ
  by_cases c : s = 1
  · rw [if_pos c]
    by_cases d : lackZ (μ (10 + 2 + p)) ≤ S
    · rw [if_neg (show ¬ S < lackZ (μ (10 + 2 + p)) by omega), if_pos ⟨c, d⟩]
    · rw [if_pos (show S < lackZ (μ (10 + 2 + p)) by omega), if_neg (fun z => d z.2), Int.sub_zero]
  · rw [if_neg c, if_neg (fun z => c z.1), Int.sub_zero]
theorem otherWants4 (N : Nat) {μ ν : mm} (a1 : relO 10 1 μ) (a2 : okR μ 1) (n : Nat) (m : Nat) (hm : (m : Int) = μ 1 0) (hf : ∀ a, a ≠ 43 → a ≠ 48 → a ≠ 49 → ν a = μ a) (hw : ∀ j, j < m → ν 48 j = wgB n (fun i => μ (10 + 2 + i)) j ∧ ν 49 j = wgG n (fun i => μ (10 + 2 + i)) j) (a b : Nat) (ha : a < m) (hb : b < m) {s t : Int} (hs : inR s) (ht : inR t) : M4_otherWants N (a : Int) s (b : Int) t ν = some (wtZ n (fun i => μ (10 + 2 + i)) b t (stZ (fun i => μ (10 + 2 + i)) a s (μ 1 2))) := by
  have h8 := a2.1
  have hS := a2.2.2.1
  have ha8 : a < 8 := by omega
  have hq : okP (μ (10 + 2 + a)) := offP a1 a2 (by omega)
  have hl := lackZ_in hq
  have ep : ν (10 + 2 + a) = μ (10 + 2 + a) := hf _ (by omega) (by omega) (by omega)
  have eS : ν 10 3 = μ 1 2 := by rw [hf 10 (by decide) (by decide) (by decide), a1.2.1]
  have go := fun S (hS : inR S) => wants4 N a1 a2 n m hm hf hw b hb ht hS
  unfold M4_otherWants
  simp only [J4_otherWants_34, J4_otherWants_35, J4_otherWants_66]
  rw [M1_at_eq N 10 a ha8, Option.bind_some, if_pos (kdo (Or.inl rfl) ha8), M2_lacking_eq N _ (by rw [ep]; exact hq), Option.bind_some, ep, eS, if_pos hs, if_pos (show inR (lackZ (μ (10 + 2 + a))) ∧ inR (μ 1 2) by omega), go (μ 1 2) (by omega), go (μ 1 2 - lackZ (μ (10 + 2 + a))) (by omega), if_pos (show inR (0 : Int) by decide), if_pos trivial, if_pos (show inR (1 : Int) by decide), if_neg (show ¬ (1 : Int) = 0 by decide)]
  unfold stZ
  by_cases c : s = 1
  · rw [if_pos c]
    by_cases d : lackZ (μ (10 + 2 + a)) ≤ μ 1 2
    · rw [if_neg (show ¬ μ 1 2 < lackZ (μ (10 + 2 + a)) by omega), if_pos ⟨c, d⟩]
      rfl
    · rw [if_pos (show μ 1 2 < lackZ (μ (10 + 2 + a)) by omega), if_neg (fun z => d z.2)]
      rfl
  · rw [if_neg c, if_neg (fun z => c z.1)]
    rfl
def twZ (A : Int → Int) (B : Int → Int → Int) : Nat → Nat → Int
  | 0, _ => -9
  | k + 1, i => if A ((i : Int) / 2) < A (1 - (i : Int) / 2) then twZ A B k (i + 1) else if B ((i : Int) / 2) ((i : Int) % 2) < B ((i : Int) / 2) (1 - (i : Int) % 2) then twZ A B k (i + 1) else 10 * ((i : Int) / 2) + (i : Int) % 2
theorem two60 (N : Nat) {μ ν : mm} (a1 : relO 10 1 μ) (a2 : okR μ 1) (n : Nat) (m : Nat) (hm : (m : Int) = μ 1 0) (hf : ∀ a, a ≠ 43 → a ≠ 48 → a ≠ 49 → ν a = μ a) (hw : ∀ j, j < m → ν 48 j = wgB n (fun i => μ (10 + 2 + i)) j ∧ ν 49 j = wgG n (fun i => μ (10 + 2 + i)) j) (a b : Nat) (ha : a < m) (hb : b < m) : ∀ (k i : Nat), i ≤ 4 → 4 < i + k →
    L4_two_60 N k (a : Int) (b : Int) (i : Int) ν = some (twZ (fun s => wtZ n (fun i => μ (10 + 2 + i)) a s (μ 1 2)) (fun s t => wtZ n (fun i => μ (10 + 2 + i)) b t (stZ (fun i => μ (10 + 2 + i)) a s (μ 1 2))) (4 - i) i, ν) := by
  have hS := a2.2.2.1
  have eS : ν 10 3 = μ 1 2 := by rw [hf 10 (by decide) (by decide) (by decide), a1.2.1]
  have w1 := fun s (hs : inR s) => wants4 N a1 a2 n m hm hf hw a ha hs (show inR (μ 1 2) by omega)
  have w2 := fun s t (hs : inR s) (ht : inR t) => otherWants4 N a1 a2 n m hm hf hw a b ha hb hs ht
  have i1 := fun s => wtZ_in n (Q := fun i => μ (10 + 2 + i)) (p := a) (offP a1 a2 (by omega)) s (μ 1 2)
  have i2 := fun t S => wtZ_in n (Q := fun i => μ (10 + 2 + i)) (p := b) (offP a1 a2 (by omega)) t S
  intro k
  induction k with
  | zero => intro i h1 h2; omega
  | succ k ih =>
    intro i h1 h2
    rw [L4_two_60, if_pos (show inR (i : Int) by omega)]
    by_cases c : 4 ≤ (i : Int)
    · rw [if_pos c, show 4 - i = 0 by omega]
      rfl
    · rw [if_neg c]
      simp only [bnd, M4_firstWants, J4_two_131]
      rw [if_pos (show 0 ≤ (i : Int) ∧ inR (i : Int) by omega), if_pos (show 0 ≤ (i : Int) ∧ inR (i : Int) by omega), eS, w1 ((i : Int) / 2) (by omega), Option.bind_some, Option.bind_some, w1 (1 - (i : Int) / 2) (by omega), Option.bind_some, Option.bind_some, w2 _ _ (by omega) (by omega), Option.bind_some, w2 _ _ (by omega) (by omega), Option.bind_some, show 4 - i = (4 - (i + 1)) + 1 by omega, twZ]
      have j1 := i1 ((i : Int) / 2)
      have j2 := i1 (1 - (i : Int) / 2)
      have j3 := i2 ((i : Int) % 2) (stZ (fun i => μ (10 + 2 + i)) a ((i : Int) / 2) (μ 1 2))
      have j4 := i2 (1 - (i : Int) % 2) (stZ (fun i => μ (10 + 2 + i)) a ((i : Int) / 2) (μ 1 2))
      have n1 := ih (i + 1) (by omega) (by omega)
      rw [if_pos (show inR (wtZ n (fun i => μ (10 + 2 + i)) a ((i : Int) / 2) (μ 1 2)) ∧ inR (wtZ n (fun i => μ (10 + 2 + i)) a (1 - (i : Int) / 2) (μ 1 2)) by omega), if_pos (show inR (wtZ n (fun i => μ (10 + 2 + i)) b ((i : Int) % 2) (stZ (fun i => μ (10 + 2 + i)) a ((i : Int) / 2) (μ 1 2))) ∧ inR (wtZ n (fun i => μ (10 + 2 + i)) b (1 - (i : Int) % 2) (stZ (fun i => μ (10 + 2 + i)) a ((i : Int) / 2) (μ 1 2))) by omega)]
      by_cases g : wtZ n (fun i => μ (10 + 2 + i)) a ((i : Int) / 2) (μ 1 2) < wtZ n (fun i => μ (10 + 2 + i)) a (1 - (i : Int) / 2) (μ 1 2)
      · rw [if_pos g, if_pos g]
        exact n1
      · rw [if_neg g, if_neg g]
        by_cases h : wtZ n (fun i => μ (10 + 2 + i)) b ((i : Int) % 2) (stZ (fun i => μ (10 + 2 + i)) a ((i : Int) / 2) (μ 1 2)) < wtZ n (fun i => μ (10 + 2 + i)) b (1 - (i : Int) % 2) (stZ (fun i => μ (10 + 2 + i)) a ((i : Int) / 2) (μ 1 2))
        · rw [if_pos h, if_pos h]
          exact n1
        · rw [if_neg h, if_neg h]
theorem sgK {β : Type} (N : Nat) {ν : mm} {p : Nat} {q : Nat → Int} {x : Int} (hx : inR x) (hp : p < 8) (ok : okR ν 2) (h6 : at6 ν 2 p q) (hq : okP q) (K : Int → mm → Option β) : (if inR x then (if x = 1 then ((M5_signs N (p : Int) ν).bind fun (z : Int × mm) => K z.1 z.2) else K 0 ν) else none) = K (if x = 1 ∧ lackZ q ≤ ν 2 2 then lackZ q else 0) (if x = 1 ∧ lackZ q ≤ ν 2 2 then isR ν 2 p (lackZ q) else ν) := by
  rw [if_pos hx, signs5 N hp ok h6 hq]
  by_cases c : x = 1
  · rw [if_pos c]
    by_cases d : lackZ q ≤ ν 2 2
    · rw [if_pos d, if_pos ⟨c, d⟩, if_pos ⟨c, d⟩]
      rfl
    · rw [if_neg d, if_neg (fun z => d z.2), if_neg (fun z => d z.2)]
      rfl
  · rw [if_neg c, if_neg (fun z => c z.1), if_neg (fun z => c z.1)]
theorem own5 (N : Nat) (hN : 200 ≤ N) {μ ν : mm} (a1 : relO 10 1 μ) (a2 : okR μ 1) (a3 : μ 1 1 ≤ 999) (n : Nat) (hn : n ≤ 100) (a b : Nat) (ha : (a : Int) < μ 1 0) (hb : (b : Int) < μ 1 0) (hab : a ≠ b) {x y : Int} (hx : inR x) (hy : inR y) (hf : frB μ ν) (c : Nat) (hc : c = a ∨ c = b) :
    ∃ ν', M5_ownBy N (c : Int) (a : Int) x (b : Int) y (n : Int) ν = some (if c = a then wtZ n (fun i => μ (10 + 2 + i)) a x (μ 1 2) else wtZ n (fun i => μ (10 + 2 + i)) b y (stZ (fun i => μ (10 + 2 + i)) a x (μ 1 2)), ν') ∧ frB μ ν' := by
  have h8 := a2.1
  have e1 := hf 1 (by decide) (by decide) (by decide) (by decide)
  have ha8 : a < 8 := by omega
  have hb8 : b < 8 := by omega
  have hqa : okP (μ (10 + 2 + a)) := offP a1 a2 ha
  have hqb : okP (μ (10 + 2 + b)) := offP a1 a2 hb
  have hla := lackZ_in hqa
  have hlb := lackZ_in hqb
  obtain ⟨s1, s2, s3, s4, s5, s6⟩ := cpS a1 a2 e1
  obtain ⟨g1, g2, g3, g4, g5, g6, g7⟩ := sg_ok (c := x = 1 ∧ lackZ (μ (10 + 2 + a)) ≤ cp 1 2 ν 2 2) (fun z => z.2) s1 (by omega) (s6 a ha) hqa
  have g6b := g7 b _ (fun z => hab z.symm) (s6 b hb)
  have K1 := sgK (x := x) N hx ha8 s1 (s6 a ha) hqa (fun o τ => J5_ownBy_25 N (c : Int) (a : Int) (b : Int) y (n : Int) o τ)
  obtain ⟨k1, k2, k3, k4, k5, k6, k7⟩ := sg_ok (c := y = 1 ∧ lackZ (μ (10 + 2 + b)) ≤ (if x = 1 ∧ lackZ (μ (10 + 2 + a)) ≤ cp 1 2 ν 2 2 then isR (cp 1 2 ν) 2 a (lackZ (μ (10 + 2 + a))) else cp 1 2 ν) 2 2) (fun z => z.2) g1 (by omega) g6b hqb
  have k6a := k7 a _ hab g6
  have K2 := sgK (x := y) N hy hb8 g1 g6b hqb (fun o τ => J5_ownBy_43 N (c : Int) (a : Int) (n : Int) (if x = 1 ∧ lackZ (μ (10 + 2 + a)) ≤ cp 1 2 ν 2 2 then lackZ (μ (10 + 2 + a)) else 0) o τ)
  have fr : ∀ d, d ≠ 2 → (if y = 1 ∧ lackZ (μ (10 + 2 + b)) ≤ (if x = 1 ∧ lackZ (μ (10 + 2 + a)) ≤ cp 1 2 ν 2 2 then isR (cp 1 2 ν) 2 a (lackZ (μ (10 + 2 + a))) else cp 1 2 ν) 2 2 then isR (if x = 1 ∧ lackZ (μ (10 + 2 + a)) ≤ cp 1 2 ν 2 2 then isR (cp 1 2 ν) 2 a (lackZ (μ (10 + 2 + a))) else cp 1 2 ν) 2 b (lackZ (μ (10 + 2 + b))) else (if x = 1 ∧ lackZ (μ (10 + 2 + a)) ≤ cp 1 2 ν 2 2 then isR (cp 1 2 ν) 2 a (lackZ (μ (10 + 2 + a))) else cp 1 2 ν)) d = ν d := fun d hd => (k5 d hd).trans ((g5 d hd).trans (cp_row hd))
  have z0 := k2.trans g2
  have z1 := k3.trans g3
  rw [g4, s4] at K2 k6 k6a k1 z0 z1 fr
  rw [s4] at K1
  rw [show (if x = 1 ∧ lackZ (μ (10 + 2 + a)) ≤ μ 1 2 then μ 1 2 - lackZ (μ (10 + 2 + a)) else μ 1 2) = stZ (fun i => μ (10 + 2 + i)) a x (μ 1 2) from rfl] at K2 k6 k6a k1 z0 z1 fr
  generalize hσ : (if y = 1 ∧ lackZ (μ (10 + 2 + b)) ≤ stZ (fun i => μ (10 + 2 + i)) a x (μ 1 2) then isR (if x = 1 ∧ lackZ (μ (10 + 2 + a)) ≤ μ 1 2 then isR (cp 1 2 ν) 2 a (lackZ (μ (10 + 2 + a))) else cp 1 2 ν) 2 b (lackZ (μ (10 + 2 + b))) else (if x = 1 ∧ lackZ (μ (10 + 2 + a)) ≤ μ 1 2 then isR (cp 1 2 ν) 2 a (lackZ (μ (10 + 2 + a))) else cp 1 2 ν)) = σ at K2 k6 k6a k1 z0 z1 fr
  have e0 : M5_ownBy N (c : Int) (a : Int) x (b : Int) y (n : Int) ν = J5_ownBy_43 N (c : Int) (a : Int) (n : Int) (if x = 1 ∧ lackZ (μ (10 + 2 + a)) ≤ μ 1 2 then lackZ (μ (10 + 2 + a)) else 0) (if y = 1 ∧ lackZ (μ (10 + 2 + b)) ≤ stZ (fun i => μ (10 + 2 + i)) a x (μ 1 2) then lackZ (μ (10 + 2 + b)) else 0) σ := by
    unfold M5_ownBy
    rw [M5_copies_eq N 1 2 (by omega) (by decide), Option.bind_some]
    exact K1.trans K2
  have t1 : ∀ {p : Nat} {q : Nat → Int}, (p : Int) < μ 1 0 → at6 σ 2 p q → M5_throughOf N 2 (p : Int) (days 2 n σ) = some (dayI n q 4 - μ (10 + 2 + p) 4) := by
    intro p q hp h
    refine M5_throughOf_eq N (by omega) (days_at (by omega) h n) (fun k hk => ?_)
    rw [days_c (by decide), fr 1 (by decide), e1]
    exact a1.2.2.2.2 p hp k hk
  refine ⟨days 2 n σ, ?_, fun d h2 h43 h48 h49 => ?_⟩
  · rw [e0]
    unfold J5_ownBy_43
    rw [M5_daysOn_eq N 2 (by omega) k1 n (by omega) (by omega), Option.bind_some]
    by_cases h : c = a
    · subst h
      rw [t1 ha k6a, Option.bind_some, if_pos (show inR (c : Int) ∧ inR (c : Int) by omega), if_pos rfl, if_pos rfl]
      unfold wtZ
      by_cases d : x = 1 ∧ lackZ (μ (10 + 2 + c)) ≤ μ 1 2
      · rw [if_pos d, if_pos d, if_pos d, if_pos (by omega)]
        rfl
      · rw [if_neg d, if_neg d, if_neg d, if_pos (by decide)]
        unfold wgB thn
        dsimp only
        rw [fu_self]
        congr 2
        omega
    · have hcb : c = b := by omega
      subst hcb
      rw [t1 hb k6, Option.bind_some, if_pos (show inR (c : Int) ∧ inR (a : Int) by omega), if_neg (show ¬ (c : Int) = (a : Int) by omega), if_neg h]
      unfold wtZ
      by_cases d : y = 1 ∧ lackZ (μ (10 + 2 + c)) ≤ stZ (fun i => μ (10 + 2 + i)) a x (μ 1 2)
      · rw [if_pos d, if_pos d, if_pos d, if_pos (by omega)]
        rfl
      · rw [if_neg d, if_neg d, if_neg d, if_pos (by decide)]
        unfold wgB thn
        dsimp only
        rw [fu_self]
        congr 2
        omega
  · rw [show days 2 n σ d = σ d from funext fun b => days_c h2 n, fr d h2]
    exact hf d h2 h43 h48 h49
theorem two49 (N : Nat) (hN : 200 ≤ N) {μ : mm} (a1 : relO 10 1 μ) (a2 : okR μ 1) (a3 : μ 1 1 ≤ 999) (n : Nat) (hn : n ≤ 100) (a b : Nat) (ha : (a : Int) < μ 1 0) (hb : (b : Int) < μ 1 0) (hab : a ≠ b) : ∀ (k i : Nat) (ν : mm), i ≤ 4 → 4 < i + k → frB μ ν →
    ∃ ν', L5_two_49 N k (a : Int) (b : Int) (n : Int) (i : Int) ν = some (twZ (fun s => wtZ n (fun i => μ (10 + 2 + i)) a s (μ 1 2)) (fun s t => wtZ n (fun i => μ (10 + 2 + i)) b t (stZ (fun i => μ (10 + 2 + i)) a s (μ 1 2))) (4 - i) i, ν') ∧ frB μ ν' := by
  have i1 := fun s => wtZ_in n (Q := fun i => μ (10 + 2 + i)) (p := a) (offP a1 a2 ha) s (μ 1 2)
  have i2 := fun t S => wtZ_in n (Q := fun i => μ (10 + 2 + i)) (p := b) (offP a1 a2 hb) t S
  intro k
  induction k with
  | zero => intro i ν h1 h2; omega
  | succ k ih =>
    intro i ν h1 h2 hf
    rw [L5_two_49, if_pos (show inR (i : Int) by omega)]
    by_cases c : 4 ≤ (i : Int)
    · rw [if_pos c, show 4 - i = 0 by omega]
      exact ⟨ν, rfl, hf⟩
    · obtain ⟨ν1, o1, f1⟩ := own5 N hN a1 a2 a3 n hn a b ha hb hab (x := 1 - (i : Int) / 2) (y := (i : Int) % 2) (by omega) (by omega) hf a (Or.inl rfl)
      obtain ⟨ν2, o2, f2⟩ := own5 N hN a1 a2 a3 n hn a b ha hb hab (x := (i : Int) / 2) (y := (i : Int) % 2) (by omega) (by omega) f1 a (Or.inl rfl)
      obtain ⟨ν3, o3, f3⟩ := own5 N hN a1 a2 a3 n hn a b ha hb hab (x := (i : Int) / 2) (y := 1 - (i : Int) % 2) (by omega) (by omega) f2 b (Or.inr rfl)
      obtain ⟨ν4, o4, f4⟩ := own5 N hN a1 a2 a3 n hn a b ha hb hab (x := (i : Int) / 2) (y := (i : Int) % 2) (by omega) (by omega) f3 b (Or.inr rfl)
      rw [if_pos rfl] at o1 o2
      rw [if_neg (fun z => hab z.symm)] at o3 o4
      have j1 := i1 ((i : Int) / 2)
      have j2 := i1 (1 - (i : Int) / 2)
      have j3 := i2 ((i : Int) % 2) (stZ (fun i => μ (10 + 2 + i)) a ((i : Int) / 2) (μ 1 2))
      have j4 := i2 (1 - (i : Int) % 2) (stZ (fun i => μ (10 + 2 + i)) a ((i : Int) / 2) (μ 1 2))
      rw [if_neg c]
      simp only [bnd, J5_two_134]
      rw [if_pos (show 0 ≤ (i : Int) ∧ inR (i : Int) by omega), if_pos (show 0 ≤ (i : Int) ∧ inR (i : Int) by omega), o1, Option.bind_some]
      dsimp only
      rw [o2, Option.bind_some]
      dsimp only
      rw [o3, Option.bind_some]
      dsimp only
      rw [o4, Option.bind_some]
      dsimp only
      rw [show 4 - i = (4 - (i + 1)) + 1 by omega, twZ, if_pos (show inR (wtZ n (fun i => μ (10 + 2 + i)) a (1 - (i : Int) / 2) (μ 1 2)) ∧ inR (wtZ n (fun i => μ (10 + 2 + i)) a ((i : Int) / 2) (μ 1 2)) by omega), if_pos (show inR (wtZ n (fun i => μ (10 + 2 + i)) b (1 - (i : Int) % 2) (stZ (fun i => μ (10 + 2 + i)) a ((i : Int) / 2) (μ 1 2))) ∧ inR (wtZ n (fun i => μ (10 + 2 + i)) b ((i : Int) % 2) (stZ (fun i => μ (10 + 2 + i)) a ((i : Int) / 2) (μ 1 2))) by omega)]
      by_cases g : wtZ n (fun i => μ (10 + 2 + i)) a ((i : Int) / 2) (μ 1 2) < wtZ n (fun i => μ (10 + 2 + i)) a (1 - (i : Int) / 2) (μ 1 2)
      · rw [if_pos g, if_pos g]
        exact ih (i + 1) ν2 (by omega) (by omega) f2
      · rw [if_neg g, if_neg g]
        by_cases h : wtZ n (fun i => μ (10 + 2 + i)) b ((i : Int) % 2) (stZ (fun i => μ (10 + 2 + i)) a ((i : Int) / 2) (μ 1 2)) < wtZ n (fun i => μ (10 + 2 + i)) b (1 - (i : Int) % 2) (stZ (fun i => μ (10 + 2 + i)) a ((i : Int) / 2) (μ 1 2))
        · rw [if_pos h, if_pos h]
          exact ih (i + 1) ν4 (by omega) (by omega) f4
        · rw [if_neg h, if_neg h]
          exact ⟨ν4, rfl, f4⟩
theorem op_two (N : Nat) (hN : 200 ≤ N) {μ : mm} (R : Rel μ) {p v n : Int} (hp : inR p) (hv : inR v) (hn : inR n) : Op (M4_two N p v n) (M5_two N p v n) μ := by
  obtain ⟨⟨a1, a2, a3⟩, -⟩ := id R
  have hm := a2.1
  have hu := unkZ_in μ p
  have hu2 := unkZ_in μ v
  have ho := outZ_in n 1 30
  have g32 : ∀ (ν : mm) (c : Int), -6 ≤ c ∧ c ≤ -1 → J5_two_32 N p v n c ν = M5_no N c ν := by
    intro ν c hc
    simp only [J5_two_32]
    rw [if_pos (show inR c from by omega), if_neg (show ¬ c = 0 by omega), rf5 N (by omega)]
  have g20 : ∀ y0 : Int, (y0 = 0 ∨ y0 = -1) → J4_two_20 N p v n y0 (unkZ μ v) (unkZ μ p) μ = if fstZ (fstZ (unkZ μ p) (unkZ μ v) y0) (outZ n 1 30) 0 = 0 then ((M4_weigh N n μ).bind fun (q8 : mm) => L4_two_60 N N p v 0 q8) else M4_refused N (fstZ (fstZ (unkZ μ p) (unkZ μ v) y0) (outZ n 1 30) 0) μ := by
    intro y0 hy
    have hf := fstZ_in (c := y0) hu hu2 (by omega)
    have hf2 := fstZ_in (c := 0) hf ho (by decide)
    simp only [J4_two_20]
    rw [M4_firstOf_eq N hu hu2, Option.bind_some, M4_outside_eq N hn (by decide) (by decide), Option.bind_some, M4_firstOf_eq N hf ho, Option.bind_some, if_pos (show inR (fstZ (fstZ (unkZ μ p) (unkZ μ v) y0) (outZ n 1 30) 0) by omega), rf4 N hf2]
  have e4 : M4_two N p v n μ = J4_two_20 N p v n (if p = v then -1 else 0) (unkZ μ v) (unkZ μ p) μ := by
    simp only [M4_two]
    rw [M4_unknown_eq N hp a1 a2, Option.bind_some, M4_unknown_eq N hv a1 a2, Option.bind_some, if_pos (show inR p ∧ inR v from ⟨hp, hv⟩)]
    split <;> rfl
  rw [g20 _ (by split <;> omega)] at e4
  by_cases k : unkZ μ p = 0
  · have kk := unkZ_0 k
    by_cases k' : unkZ μ v = 0
    · have kk' := unkZ_0 k'
      by_cases e : p = v
      · rw [if_pos e, fst3 k k', fst1 (by decide), if_neg (by decide)] at e4
        refine Op_ref N R (c := -1) (by decide) e4 (fun ν hν => ?_)
        have r1 : ν 1 = μ 1 := by rw [hν]; exact r4_c (by decide)
        simp only [M5_two, J5_two_31]
        rw [M5_isOne_eq N hp (okR_congr a2 r1), Option.bind_some, r1, if_pos kk, if_pos (by decide), if_neg (by decide), M5_isOne_eq N hv (okR_congr a2 r1), Option.bind_some, r1, if_pos kk', if_pos (by decide), if_neg (by decide), if_pos (show inR p ∧ inR v from ⟨hp, hv⟩), if_pos e, g32 ν (-1) (by decide)]
      · rw [if_neg e, fst3 k k'] at e4
        have m5 : ∀ ν : mm, ν 1 = μ 1 → M5_two N p v n ν = J5_two_32 N p v n (outZ n 1 30) ν := by
          intro ν r1
          simp only [M5_two]
          rw [M5_isOne_eq N hp (okR_congr a2 r1), Option.bind_some, r1, if_pos kk, if_pos (by decide), if_neg (by decide), M5_isOne_eq N hv (okR_congr a2 r1), Option.bind_some, r1, if_pos kk', if_pos (by decide), if_neg (by decide), if_pos (show inR p ∧ inR v from ⟨hp, hv⟩), if_neg e, M5_wrongBy_eq N hn (by decide) (by decide), Option.bind_some]
        by_cases o : outZ n 1 30 = 0
        · have oo := outZ_0 o
          rw [fst0 rfl o, if_pos rfl] at e4
          obtain ⟨j, rfl⟩ := Int.eq_ofNat_of_zero_le (show 0 ≤ n by omega)
          obtain ⟨a, rfl⟩ := Int.eq_ofNat_of_zero_le kk.1
          obtain ⟨b, rfl⟩ := Int.eq_ofNat_of_zero_le kk'.1
          obtain ⟨m, hmm⟩ := Int.eq_ofNat_of_zero_le hm.1
          obtain ⟨μ1, eW, fW, hW⟩ := weigh4 N hN a1 a2 j (by omega) m hmm.symm N 0 μ (by omega) (by omega) (fun _ _ _ _ => rfl) (fun i hi => by omega)
          have t4 := two60 N a1 a2 j m hmm.symm fW hW a b (by omega) (by omega) N 0 (by omega) (by omega)
          obtain ⟨μ2, t5, f5⟩ := two49 N hN a1 a2 a3 j (by omega) a b kk.2 kk'.2 (fun z => e (by rw [z])) N 0 μ1 (by omega) (by omega) (fun a h2 h43 h48 h49 => fW a h43 h48 h49)
          rw [show ((0 : Nat) : Int) = 0 from rfl] at eW t4 t5
          refine ⟨twZ (fun s => wtZ j (fun i => μ (10 + 2 + i)) a s (μ 1 2)) (fun s t => wtZ j (fun i => μ (10 + 2 + i)) b t (stZ (fun i => μ (10 + 2 + i)) a s (μ 1 2))) (4 - 0) 0, μ1, μ2, ?_, (m5 μ1 (fW 1 (by decide) (by decide) (by decide))).trans ?_, Rel_frB R f5⟩
          · rw [e4]
            unfold M4_weigh
            rw [eW, Option.bind_some]
            exact t4
          · simp only [J5_two_32]
            rw [o, if_pos (by decide), if_pos rfl]
            exact t5
        · rw [fst2 rfl o, if_neg o] at e4
          exact Op_ref N R (c := outZ n 1 30) (by omega) e4 (fun ν hν => by rw [m5 ν (by rw [hν]; exact r4_c (by decide)), g32 ν _ (by omega)])
    · obtain ⟨k1, k2⟩ := unkZ_no k'
      rw [fst2 k k', k1, fst1 (by decide), if_neg (by decide)] at e4
      refine Op_ref N R (c := -1) (by decide) e4 (fun ν hν => ?_)
      have r1 : ν 1 = μ 1 := by rw [hν]; exact r4_c (by decide)
      simp only [M5_two, J5_two_31]
      rw [M5_isOne_eq N hp (okR_congr a2 r1), Option.bind_some, r1, if_pos kk, if_pos (by decide), if_neg (by decide), M5_isOne_eq N hv (okR_congr a2 r1), Option.bind_some, r1, if_neg k2, if_pos (by decide), if_pos rfl, g32 ν (-1) (by decide)]
  · obtain ⟨k1, k2⟩ := unkZ_no k
    rw [fst1 k, k1, fst1 (by decide), if_neg (by decide)] at e4
    refine Op_ref N R (c := -1) (by decide) e4 (fun ν hν => ?_)
    have r1 : ν 1 = μ 1 := by rw [hν]; exact r4_c (by decide)
    simp only [M5_two, J5_two_31]
    rw [M5_isOne_eq N hp (okR_congr a2 r1), Option.bind_some, r1, if_neg k2, if_pos (by decide), if_pos rfl, g32 ν (-1) (by decide)]
