/-! serve -/
theorem zand_iff {x m : Nat} (hx : x < 256) (hm : m < 256) : zand (x : Int) (zxor (m : Int) (-1)) = 0 ↔ Nat.land x m = x := by
  have z := zand_sub x hx m hm
  constructor
  · intro h
    rw [h] at z
    exact beq_iff_eq.mp (z.symm.trans rfl)
  · intro h
    rw [h] at z
    exact beq_iff_eq.mp (z.trans (beq_self_eq_true x))
theorem zand_in (x y : Int) : inR (zand x y) := by
  have a := Int32.toInt_lt (iO x &&& iO y)
  have b := Int32.le_toInt (iO x &&& iO y)
  unfold zand
  omega
def sv (m : Nat) (g : Nat → Prop) [DecidablePred g] (who x : Nat) : Nat := if zpop (who : Int) < zpop (x : Int) ∧ Nat.land x m = x ∧ g x then x else who
def svF (m : Nat) (g : Nat → Prop) [DecidablePred g] : Nat → Nat → Nat → Nat
  | 0, _, who => who
  | k + 1, x, who => svF m g k (x + 1) (sv m g who x)
theorem svF_add (m : Nat) (g : Nat → Prop) [DecidablePred g] (b : Nat) : ∀ a x who, svF m g (a + b) x who = svF m g b (x + a) (svF m g a x who) := by
  intro a
  induction a with
  | zero => intro x who; rw [Nat.zero_add]; rfl
  | succ a ih =>
    intro x who
    rw [show a + 1 + b = (a + b) + 1 by omega]
    show svF m g (a + b) (x + 1) (sv m g who x) = svF m g b (x + (a + 1)) (svF m g a (x + 1) (sv m g who x))
    rw [ih, show x + 1 + a = x + (a + 1) by omega]
theorem svF_end (m : Nat) (g : Nat → Prop) [DecidablePred g] : ∀ a x who, m < x → svF m g a x who = who := by
  intro a
  induction a with
  | zero => intro x who _; rfl
  | succ a ih =>
    intro x who h
    show svF m g a (x + 1) (sv m g who x) = who
    rw [ih (x + 1) _ (by omega)]
    unfold sv
    rw [if_neg]
    intro z
    have : x &&& m ≤ m := Nat.and_le_right
    have e : x &&& m = x := z.2.1
    omega
theorem svF_one (m : Nat) (g : Nat → Prop) [DecidablePred g] (P : Nat) (hP : m < P) : svF m g (P - 1) 1 0 = svF m g (m + 1 - 0) 0 0 := by
  show _ = svF m g m 1 (sv m g 0 0)
  have e0 : sv m g 0 0 = 0 := by
    unfold sv
    split <;> rfl
  rw [e0, show P - 1 = m + (P - 1 - m) by omega, svF_add, svF_end m g _ _ _ (by omega)]
theorem serve4 (N : Nat) (hN : 300 ≤ N) {μ : mm} (ok : okO μ 10) (hs : inR (μ 10 3)) (F : Nat → Int) (hF : F = fun p => lackZ (μ (10 + 2 + p))) (n : Nat) (hn : n = (μ 10 2).toNat) (m : Nat) (hm : m = maskN (fun i => decide (0 < F i)) n) {w : Int} (hw : inR w) : ∀ (k x who : Nat), x ≤ 2 ^ n → 2 ^ n < x + k → who < 256 →
    L4_serve_24 N k w (zpop (who : Int)) (who : Int) (x : Int) μ = some (if w = 0 then zpop ((svF m (fun x => lkN F x n ≤ μ 10 3) (2 ^ n - x) x who : Nat) : Int) else if w = 1 then ((svF m (fun x => lkN F x n ≤ μ 10 3) (2 ^ n - x) x who : Nat) : Int) else μ 10 3 - lkN F (svF m (fun x => lkN F x n ≤ μ 10 3) (2 ^ n - x) x who) n, μ) := by
  have h8 := ok.1
  have hn8 : n ≤ 8 := by omega
  have hP : 2 ^ n ≤ 256 := Nat.pow_le_pow_right (n := 2) (by decide) hn8
  have eP : (1 * 2 ^ (μ 10 2).toNat : Int) = ((2 ^ n : Nat) : Int) := by
    rw [← hn, Int.one_mul, Int.natCast_pow]
    rfl
  have lk : ∀ x : Nat, x < 256 → M1_lackOf N 10 (x : Int) μ = some (lkN F x n) := by
    intro x hx
    have := M1_lackOf_loop N (o := 10) (Or.inl rfl) ok x hx N 0 (by omega) (by omega)
    rw [hF, hn]
    exact this
  have lkin : ∀ x : Nat, 0 ≤ lkN F x n ∧ lkN F x n ≤ 24 * (n : Int) := fun x => lkN_in x n (fun i hi => by rw [hF]; exact lackZ_in (ok.2.2 i (by omega)))
  intro k
  induction k with
  | zero => intro x who h1 h2; omega
  | succ k ih =>
    intro x who h1 h2 hwho
    have zw := zpop_in (who : Int)
    have zx := zpop_in (x : Int)
    rw [L4_serve_24, if_pos (show 0 ≤ μ 10 2 ∧ μ 10 2 < 32 by omega), eP, if_pos (show inR (x : Int) ∧ inR ((2 ^ n : Nat) : Int) by omega)]
    by_cases c : ((2 ^ n : Nat) : Int) ≤ (x : Int)
    · rw [if_pos c, show 2 ^ n - x = 0 by omega, if_pos hw, if_pos hw, lk who hwho]
      show _ = some (if w = 0 then zpop ((who : Nat) : Int) else if w = 1 then ((who : Nat) : Int) else μ 10 3 - lkN F who n, μ)
      split
      · rfl
      · split <;> rfl
    · have hx : x < 256 := by omega
      have hxn : x < 2 ^ n := by omega
      obtain ⟨r, e, hr, iff⟩ := M1_lackAll_loop N (o := 10) (Or.inl rfl) ok x hx N 0 (by omega) (by omega)
      have sub : r = 1 ↔ Nat.land x m = x := by
        rw [iff, land_sub hx]
        constructor
        · intro h j hj hb
          have hjn : j < n := by
            by_cases t : j < n
            · exact t
            · have : 2 ^ n ≤ 2 ^ j := Nat.pow_le_pow_right (by decide) (by omega)
              rw [Nat.div_eq_of_lt (by omega)] at hb
              exact absurd hb (by decide)
          have := h j (by omega) (by omega) hb
          rw [hm, maskN_bit _ n hn8 j hj, if_pos ⟨hjn, by rw [hF]; exact decide_eq_true this⟩]
        · intro h j _ hj hb
          have := h j (by omega) hb
          rw [hm, maskN_bit _ n hn8 j (by omega)] at this
          by_cases t : j < n ∧ decide (0 < F j) = true
          · have t2 := of_decide_eq_true t.2
            rw [hF] at t2
            exact t2
          · rw [if_neg t] at this
            exact absurd this (by decide)
      rw [show ((0 : Nat) : Int) = 0 from rfl] at e
      have eA : M1_lackAll N 10 (x : Int) μ = some r := e
      have st : ∀ who' : Nat, who' < 256 → sv m (fun x => lkN F x n ≤ μ 10 3) who x = who' → L4_serve_24 N k w (zpop (who' : Int)) (who' : Int) ((x : Int) + 1) μ = some (if w = 0 then zpop ((svF m (fun x => lkN F x n ≤ μ 10 3) (2 ^ n - x) x who : Nat) : Int) else if w = 1 then ((svF m (fun x => lkN F x n ≤ μ 10 3) (2 ^ n - x) x who : Nat) : Int) else μ 10 3 - lkN F (svF m (fun x => lkN F x n ≤ μ 10 3) (2 ^ n - x) x who) n, μ) := by
        intro who' hw' hsv
        have := ih (x + 1) who' (by omega) (by omega) hw'
        rw [show 2 ^ n - x = (2 ^ n - (x + 1)) + 1 by omega]
        show _ = some (if w = 0 then zpop ((svF m (fun x => lkN F x n ≤ μ 10 3) (2 ^ n - (x + 1)) (x + 1) (sv m (fun x => lkN F x n ≤ μ 10 3) who x) : Nat) : Int) else if w = 1 then ((svF m (fun x => lkN F x n ≤ μ 10 3) (2 ^ n - (x + 1)) (x + 1) (sv m (fun x => lkN F x n ≤ μ 10 3) who x) : Nat) : Int) else μ 10 3 - lkN F (svF m (fun x => lkN F x n ≤ μ 10 3) (2 ^ n - (x + 1)) (x + 1) (sv m (fun x => lkN F x n ≤ μ 10 3) who x)) n, μ)
        rw [hsv]
        exact this
      have lx := lkin x
      rw [if_neg c, M6_bits_eq N x hx, Option.bind_some, if_pos (show inR (zpop (x : Int)) ∧ inR (zpop (who : Int)) by omega), eA, Option.bind_some, if_pos (show inR r by omega), lk x hx, Option.bind_some, if_pos (show inR (lkN F x n) ∧ inR (μ 10 3) by omega)]
      simp only [J4_serve_89]
      by_cases d : zpop (x : Int) ≤ zpop (who : Int)
      · rw [if_pos d]
        exact st who hwho (by unfold sv; rw [if_neg (fun z => by omega)])
      · rw [if_neg d]
        by_cases g : r = 0
        · rw [if_pos g]
          exact st who hwho (by unfold sv; rw [if_neg (fun z => by have := sub.mpr z.2.1; omega)])
        · rw [if_neg g]
          by_cases u : μ 10 3 < lkN F x n
          · rw [if_pos u]
            exact st who hwho (by unfold sv; rw [if_neg (fun z => by have := z.2.2; omega)])
          · rw [if_neg u]
            exact st x hx (by unfold sv; rw [if_pos ⟨by omega, sub.mp (by omega), by omega⟩])
theorem serve5 (N : Nat) (hN : 300 ≤ N) {μ : mm} (ok : okR μ 1) (F : Nat → Int) (hF : ∀ p : Nat, (p : Int) < μ 1 0 → F p = lackZ (pq μ 1 p)) (n : Nat) (hn : n = (μ 1 0).toNat) (m : Nat) (hm : m < 256) {w : Int} (hw : inR w) : ∀ (k x who : Nat), x ≤ m + 1 → m + 1 < x + k → who < 256 →
    L5_serve_26 N k w (m : Int) (who : Int) (x : Int) μ = some (if w = 0 then zpop ((svF m (fun x => lkN F x n ≤ μ 1 2) (m + 1 - x) x who : Nat) : Int) else if w = 1 then ((svF m (fun x => lkN F x n ≤ μ 1 2) (m + 1 - x) x who : Nat) : Int) else μ 1 2 - lkN F (svF m (fun x => lkN F x n ≤ μ 1 2) (m + 1 - x) x who) n, μ) := by
  have h8 := ok.1
  have hs := ok.2.2.1
  have lk : ∀ x : Nat, x < 256 → M5_lacksOf N (x : Int) μ = some (lkN F x n) := by
    intro x hx
    have := M5_lacksOf_loop N ok F hF x hx N 0 (by omega) (by omega)
    rw [hn]
    exact this
  have lkin : ∀ x : Nat, 0 ≤ lkN F x n ∧ lkN F x n ≤ 24 * (n : Int) := fun x => lkN_in x n (fun i hi => by rw [hF i (by omega)]; exact lackZ_in (ok.2.2.2.2 i (by omega)))
  intro k
  induction k with
  | zero => intro x who h1 h2; omega
  | succ k ih =>
    intro x who h1 h2 hwho
    have zw := zpop_in (who : Int)
    have zx := zpop_in (x : Int)
    rw [L5_serve_26, if_pos (show inR (x : Int) ∧ inR (m : Int) by omega)]
    by_cases c : (m : Int) < (x : Int)
    · rw [if_pos c, show m + 1 - x = 0 by omega, if_pos hw, if_pos hw, lk who hwho, M5_bits_eq N who (by omega) hwho]
      show _ = some (if w = 0 then zpop ((who : Nat) : Int) else if w = 1 then ((who : Nat) : Int) else μ 1 2 - lkN F who n, μ)
      split
      · rfl
      · split <;> rfl
    · have hx : x < 256 := by omega
      have st : ∀ who' : Nat, who' < 256 → sv m (fun x => lkN F x n ≤ μ 1 2) who x = who' → L5_serve_26 N k w (m : Int) (who' : Int) ((x : Int) + 1) μ = some (if w = 0 then zpop ((svF m (fun x => lkN F x n ≤ μ 1 2) (m + 1 - x) x who : Nat) : Int) else if w = 1 then ((svF m (fun x => lkN F x n ≤ μ 1 2) (m + 1 - x) x who : Nat) : Int) else μ 1 2 - lkN F (svF m (fun x => lkN F x n ≤ μ 1 2) (m + 1 - x) x who) n, μ) := by
        intro who' hw' hsv
        have := ih (x + 1) who' (by omega) (by omega) hw'
        rw [show m + 1 - x = (m + 1 - (x + 1)) + 1 by omega]
        show _ = some (if w = 0 then zpop ((svF m (fun x => lkN F x n ≤ μ 1 2) (m + 1 - (x + 1)) (x + 1) (sv m (fun x => lkN F x n ≤ μ 1 2) who x) : Nat) : Int) else if w = 1 then ((svF m (fun x => lkN F x n ≤ μ 1 2) (m + 1 - (x + 1)) (x + 1) (sv m (fun x => lkN F x n ≤ μ 1 2) who x) : Nat) : Int) else μ 1 2 - lkN F (svF m (fun x => lkN F x n ≤ μ 1 2) (m + 1 - (x + 1)) (x + 1) (sv m (fun x => lkN F x n ≤ μ 1 2) who x)) n, μ)
        rw [hsv]
        exact this
      have lx := lkin x
      rw [if_neg c, if_pos (zand_in _ _), M5_bits_eq N x (by omega) hx, Option.bind_some, M5_bits_eq N who (by omega) hwho, Option.bind_some, if_pos (show inR (zpop (x : Int)) ∧ inR (zpop (who : Int)) by omega), lk x hx, Option.bind_some, if_pos (show inR (lkN F x n) ∧ inR (μ 1 2) by omega)]
      simp only [J5_serve_71]
      by_cases g : Nat.land x m = x
      · rw [if_pos ((zand_iff hx hm).mpr g)]
        by_cases d : zpop (x : Int) ≤ zpop (who : Int)
        · rw [if_pos d]
          exact st who hwho (by unfold sv; rw [if_neg (fun z => by omega)])
        · rw [if_neg d]
          by_cases u : μ 1 2 < lkN F x n
          · rw [if_pos u]
            exact st who hwho (by unfold sv; rw [if_neg (fun z => by have := z.2.2; omega)])
          · rw [if_neg u]
            exact st x hx (by unfold sv; rw [if_pos ⟨by omega, g, by omega⟩])
      · rw [if_neg (fun z => g ((zand_iff hx hm).mp z))]
        exact st who hwho (by unfold sv; rw [if_neg (fun z => g z.2.1)])
theorem Op_same {f g : mm → Option (Int × mm)} {μ : mm} {r : Int} (R : Rel μ) (h4 : f μ = some (r, μ)) (h5 : g μ = some (r, μ)) : Op f g μ := ⟨r, μ, μ, h4, h5, R⟩
theorem op_serve (N : Nat) (hN : 300 ≤ N) {μ : mm} (R : Rel μ) {w : Int} (hw : inR w) : Op (M4_serve N w) (M5_serve N w) μ := by
  obtain ⟨⟨a1, a2, a3⟩, -⟩ := id R
  have hm := a2.1
  by_cases t : othZ w 2 = 0
  · have tt := othZ_0 t
    have okO1 : okO μ 10 := okO_of a1 a2
    have hF5 : ∀ p : Nat, (p : Int) < μ 1 0 → (fun p => lackZ (μ (10 + 2 + p))) p = lackZ (pq μ 1 p) := fun p hp => lackZ_congr (fun k hk => (a1.2.2.2.2 p hp k hk).symm)
    have hn8 : (μ 1 0).toNat ≤ 8 := by omega
    have hmk := maskN_lt (fun i => decide (0 < (fun p => lackZ (μ (10 + 2 + p))) i)) (μ 1 0).toNat
    have hP : 2 ^ (μ 1 0).toNat ≤ 256 := Nat.pow_le_pow_right (n := 2) (by decide) hn8
    have e4 := serve4 N hN okO1 (by rw [a1.2.1]; have := a2.2.2.1; omega) (fun p => lackZ (μ (10 + 2 + p))) rfl (μ 1 0).toNat (by rw [a1.1]) _ rfl hw N 1 0 Nat.one_le_two_pow (by omega) (by decide)
    have e5 := serve5 N hN a2 (fun p => lackZ (μ (10 + 2 + p))) hF5 (μ 1 0).toNat rfl (maskN (fun i => decide (0 < (fun p => lackZ (μ (10 + 2 + p))) i)) (μ 1 0).toNat) (by omega) hw N 0 0 (by omega) (by omega) (by decide)
    rw [a1.2.1, svF_one _ _ _ hmk] at e4
    have eM := M5_lacking_loop N a2 (fun p => lackZ (μ (10 + 2 + p))) hF5 N 0 (by omega) (by omega)
    refine Op_same (f := M4_serve N w) (g := M5_serve N w) R (Eq.trans ?_ e4) (Eq.trans ?_ e5)
    · simp only [M4_serve]
      rw [M4_other_eq N hw (by decide), Option.bind_some, t, if_pos (by decide), if_pos rfl]
      rfl
    · simp only [M5_serve]
      rw [M5_isIn_eq N hw (by decide) (by decide), Option.bind_some, if_pos tt, if_pos (by decide), if_neg (by decide)]
      unfold M5_lacking
      rw [show L5_lacking_4 N N 0 0 μ = _ from eM, Option.bind_some]
      rfl
  · obtain ⟨t1, t2⟩ := oth_no t
    refine Op_ref N R (c := -2) (by decide) ?_ (fun ν _ => ?_)
    · simp only [M4_serve]
      rw [M4_other_eq N hw (by decide), Option.bind_some, t1, if_pos (by decide), if_neg (by decide), rf4 N (by decide)]
    · simp only [M5_serve]
      rw [M5_isIn_eq N hw (by decide) (by decide), Option.bind_some, if_neg t2, if_pos (by decide), if_pos rfl, rf5 N (by decide)]
