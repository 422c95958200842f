/-! copies on the class's side; image and on -/
def tkP (o a : Nat) (μ : mm) : mm := fun x y => if x = o ∧ y < 8 then (if y < 6 then μ a y else 0) else μ x y
theorem M2_takeFrom_eq (N : Nat) {o a : Nat} (h : a ≠ o) (μ : mm) : M2_takeFrom N o a μ = some (tkP o a μ) := by
  simp only [M2_takeFrom, bnd]
  have e : ∀ (ν : mm) (j y : Nat) (v : Int), mu ν o j v a y = ν a y := fun _ _ _ _ => mu_c h
  simp only [e]
  congr 1
  funext x y
  by_cases hx : x = o
  · subst hx
    have hy : y = 0 ∨ y = 1 ∨ y = 2 ∨ y = 3 ∨ y = 4 ∨ y = 5 ∨ y = 6 ∨ y = 7 ∨ 8 ≤ y := by omega
    unfold tkP
    rcases hy with rfl | rfl | rfl | rfl | rfl | rfl | rfl | rfl | hy
    · simp [mu]
    · simp [mu]
    · simp [mu]
    · simp [mu]
    · simp [mu]
    · simp [mu]
    · simp [mu]
    · simp [mu]
    · rw [if_neg (by omega)]
      repeat rw [mu_j (by omega)]
  · unfold tkP
    rw [if_neg (fun z => hx z.1)]
    repeat rw [mu_c hx]
def tkN (o a i : Nat) (μ : mm) : mm := fun x y => if x = o ∧ 2 ≤ y ∧ y ≤ 5 then μ a y else if o + 2 ≤ x ∧ x < o + 2 + i ∧ y < 8 then (if y < 6 then μ (a + (x - o)) y else 0) else μ x y
theorem tkN_c {o a i x : Nat} {μ : mm} (h : x ≠ o) (hx : x < o + 2 ∨ o + 2 + i ≤ x) : tkN o a i μ x = μ x := by
  funext y
  unfold tkN
  rw [if_neg (by omega), if_neg (by omega)]
theorem tkN_sc {o a i y : Nat} {μ : mm} (h : 2 ≤ y ∧ y ≤ 5) : tkN o a i μ o y = μ a y := by
  unfold tkN
  rw [if_pos ⟨rfl, h⟩]
theorem tkN_at {o a i p y : Nat} {μ : mm} (h : p < i) (hy : y < 6) : tkN o a i μ (o + 2 + p) y = μ (a + 2 + p) y := by
  unfold tkN
  rw [if_neg (by omega), if_pos (by omega), if_pos hy, show a + (o + 2 + p - o) = a + 2 + p by omega]
theorem tkN_z {o a i p y : Nat} {μ : mm} (h : p < i) (hy : 6 ≤ y) (hy8 : y < 8) : tkN o a i μ (o + 2 + p) y = 0 := by
  unfold tkN
  rw [if_neg (by omega), if_pos (by omega), if_neg (by omega)]
theorem tkN_step {o a i : Nat} {μ : mm} (hd : a + 11 ≤ o ∨ o + 11 ≤ a) (hi : i < 8) : tkP (o + 2 + i) (a + 2 + i) (tkN o a i μ) = tkN o a (i + 1) μ := by
  have e : tkN o a i μ (a + 2 + i) = μ (a + 2 + i) := tkN_c (by omega) (by omega)
  funext x y
  unfold tkP
  rw [e]
  by_cases hx : x = o + 2 + i
  · subst hx
    by_cases hy : y < 8
    · rw [if_pos ⟨rfl, hy⟩]
      unfold tkN
      rw [if_neg (show ¬ (o + 2 + i = o ∧ 2 ≤ y ∧ y ≤ 5) by omega), if_pos (show o + 2 ≤ o + 2 + i ∧ o + 2 + i < o + 2 + (i + 1) ∧ y < 8 by omega), show a + (o + 2 + i - o) = a + 2 + i by omega]
    · rw [if_neg (by omega)]
      unfold tkN
      rw [if_neg (by omega), if_neg (by omega), if_neg (by omega), if_neg (by omega)]
  · rw [if_neg (by omega)]
    unfold tkN
    by_cases c : x = o ∧ 2 ≤ y ∧ y ≤ 5
    · rw [if_pos c, if_pos c]
    · rw [if_neg c, if_neg c]
      by_cases d : o + 2 ≤ x ∧ x < o + 2 + i ∧ y < 8
      · rw [if_pos d, if_pos (show o + 2 ≤ x ∧ x < o + 2 + (i + 1) ∧ y < 8 by omega)]
      · rw [if_neg d, if_neg (by omega)]
def isO (o : Nat) : Prop := o = 10 ∨ o = 21 ∨ o = 32
theorem isO_far {o a : Nat} (ho : isO o) (ha : isO a) (h : a ≠ o) : a + 11 ≤ o ∨ o + 11 ≤ a := by unfold isO at ho ha; omega
theorem M1_takeFrom_loop (N : Nat) {o a : Nat} (ho : isO o) (ha : isO a) (hab : a ≠ o) {μ : mm} (hm : 0 ≤ μ a 2 ∧ μ a 2 ≤ 8) : ∀ (k i : Nat), (i : Int) ≤ μ a 2 → μ a 2 < (i : Int) + k → L1_takeFrom_34 N k o a (i : Int) (tkN o a i μ) = some (tkN o a (μ a 2).toNat μ) := by
  have hd := isO_far ho ha hab
  intro k
  induction k with
  | zero => intro i h1 h2; omega
  | succ k ih =>
    intro i h1 h2
    rw [L1_takeFrom_34, tkN_sc (show 2 ≤ 2 ∧ 2 ≤ 5 by decide), if_pos (show inR (i : Int) ∧ inR (μ a 2) from by omega)]
    by_cases c : μ a 2 ≤ (i : Int)
    · rw [if_pos c, show i = (μ a 2).toNat by omega]
    · have hi : i < 8 := by omega
      rw [if_neg c, M1_at_eq N o i hi, Option.bind_some, if_pos (kdO ho hi), M1_at_eq N a i hi, Option.bind_some, if_pos (kdO ha hi), M2_takeFrom_eq N (by omega), Option.bind_some, tkN_step hd hi]
      exact ih (i + 1) (by omega) (by omega)
theorem tkN_0 (o a : Nat) (μ : mm) (hao : a ≠ o) : mu (mu (mu (mu μ o 2 (μ a 2)) o 3 (μ a 3)) o 4 (μ a 4)) o 5 (μ a 5) = tkN o a 0 μ := by
  funext x y
  by_cases hx : x = o
  · subst hx
    have hy : y = 2 ∨ y = 3 ∨ y = 4 ∨ y = 5 ∨ ¬ (2 ≤ y ∧ y ≤ 5) := by omega
    unfold tkN
    rcases hy with rfl | rfl | rfl | rfl | hy
    · simp [mu]
    · simp [mu]
    · simp [mu]
    · simp [mu]
    · rw [if_neg (fun z => hy z.2), if_neg (by omega), mu_j (by omega), mu_j (by omega), mu_j (by omega), mu_j (by omega)]
  · unfold tkN
    rw [if_neg (fun z => hx z.1), if_neg (by omega), mu_c hx, mu_c hx, mu_c hx, mu_c hx]
theorem M1_takeFrom_eq (N : Nat) {o a : Nat} (ho : isO o) (ha : isO a) (hab : a ≠ o) {μ : mm} (hN : 9 ≤ N) (hm : 0 ≤ μ a 2 ∧ μ a 2 ≤ 8) : M1_takeFrom N o a μ = some (tkN o a (μ a 2).toNat μ) := by
  simp only [M1_takeFrom, bnd]
  have e : ∀ (ν : mm) (j y : Nat) (v : Int), mu ν o j v a y = ν a y := fun _ _ _ _ => mu_c hab
  simp only [e]
  rw [tkN_0 o a μ hab]
  exact M1_takeFrom_loop N ho ha hab hm N 0 (by omega) (by omega)
theorem tk_rel {o a r : Nat} {μ ν : mm} (ho : isO o) (hr : r < 10) (R : relO a r μ) (hm : 0 ≤ μ r 0 ∧ μ r 0 ≤ 8) (hν : ∀ x, o ≤ x → x < o + 10 → ν x = tkN o a (μ a 2).toNat μ x) {r' : Nat} (hr' : ∀ j, j < 52 → ν r' j = μ r j) : relO o r' ν := by
  obtain ⟨r1, r2, r3, r4, r5⟩ := R
  have h0 := hν o (by omega) (by omega)
  refine ⟨by rw [h0, tkN_sc (by decide), hr' 0 (by decide)]; exact r1, by rw [h0, tkN_sc (by decide), hr' 2 (by decide)]; exact r2, by rw [h0, tkN_sc (by decide), hr' 3 (by decide)]; exact r3, by rw [h0, tkN_sc (by decide), hr' 1 (by decide)]; exact r4, fun p hp => ?_⟩
  rw [hr' 0 (by decide)] at hp
  intro k hk
  rw [hr' _ (by omega), hν (o + 2 + p) (by omega) (by omega), tkN_at (by omega) hk]
  exact r5 p hp k hk
/-- only the image's part changes -/
theorem Rel_img {μ ν : mm} (R : Rel μ) (hI : relI ν) (hc : ∀ a, a ≠ 0 → a ≠ 3 → a ≠ 9 → (a < 32 ∨ 42 ≤ a) → ν a = μ a) (h0 : ∀ j, j ≠ 4 → ν 0 j = μ 0 j) (h9 : ∀ j, j ≠ 10 → ν 9 j = μ 9 j) : Rel ν := by
  obtain ⟨⟨a1, a2, a3⟩, -, ⟨c1, c2, c3⟩, ⟨d1, d2, d3⟩, e, f⟩ := R
  have hpn : ∀ p, p < 8 → ν (10 + 2 + p) = μ (10 + 2 + p) := fun p hp => hc _ (by omega) (by omega) (by omega) (by omega)
  have k1 := hc 1 (by decide) (by decide) (by decide) (by decide)
  refine ⟨⟨relO_congr a1 (hc 10 (by decide) (by decide) (by decide) (by decide)) k1 hpn a2.1.2, okR_congr a2 k1, by rw [k1]; exact a3⟩, hI, ⟨by rw [hc 44 (by decide) (by decide) (by decide) (by decide), h0 8 (by decide)]; exact c1, by rw [h0 8 (by decide)]; exact c2, fun j hj => ?_⟩, ⟨by rw [h9 9 (by decide), h0 9 (by decide)]; exact d1, by rw [h0 9 (by decide)]; exact d2, fun j hj => ?_⟩, fun j h1 h6 => ?_, fun q hk => ?_⟩
  · rw [h0 8 (by decide)] at hj
    rw [hc 45 (by decide) (by decide) (by decide) (by decide), hc 5 (by decide) (by decide) (by decide) (by decide)]
    exact c3 j hj
  · rw [h0 9 (by decide)] at hj
    rw [hc 46 (by decide) (by decide) (by decide) (by decide), hc 6 (by decide) (by decide) (by decide) (by decide)]
    exact d3 j hj
  · rw [hc 47 (by decide) (by decide) (by decide) (by decide), hc 7 (by decide) (by decide) (by decide) (by decide)]
    exact e j h1 h6
  · rw [hc 20 (by decide) (by decide) (by decide) (by decide), hc 31 (by decide) (by decide) (by decide) (by decide), hc 42 (by decide) (by decide) (by decide) (by decide)]
    exact f q hk
theorem cp_row {a b x : Nat} {μ : mm} (h : x ≠ b) : cp a b μ x = μ x := funext fun _ => cp_c h
theorem mu_row {μ : mm} {i j a : Nat} {v : Int} (h : a ≠ i) : mu μ i j v a = μ a := funext fun _ => mu_c h
theorem okR_row {r r' : Nat} {μ ν : mm} (h : okR μ r) (hr : ∀ j, j < 52 → ν r' j = μ r j) : okR ν r' := by
  obtain ⟨o1, o2, o3, o4, o5⟩ := h
  refine ⟨by rw [hr 0 (by decide)]; exact o1, by rw [hr 1 (by decide)]; exact o2, by rw [hr 2 (by decide)]; exact o3, by rw [hr 3 (by decide)]; exact o4, fun p hp => ?_⟩
  rw [hr 0 (by decide)] at hp
  have hk := o5 p hp
  have e : ∀ k, k < 6 → pq ν r' p k = pq μ r p k := fun k hk => hr _ (by omega)
  unfold okP at hk ⊢
  rw [e 0 (by decide), e 1 (by decide), e 2 (by decide), e 3 (by decide), e 4 (by decide), e 5 (by decide)]
  exact hk
theorem op_image (N : Nat) (hN : 53 ≤ N) {μ : mm} (R : Rel μ) : Op (M4_image N) (M5_image N) μ := by
  obtain ⟨⟨a1, a2, a3⟩, -⟩ := id R
  have hm := a2.1
  have e := a1.1
  have en : (μ 10 2).toNat ≤ 8 := by omega
  refine ⟨μ 1 1, mu (tkN 32 10 (μ 10 2).toNat μ) 9 10 1, mu (cp 1 3 (mu (tkN 32 10 (μ 10 2).toNat μ) 9 10 1)) 0 4 1, ?_, ?_, ?_⟩
  · simp only [M4_image, bnd]
    rw [M1_takeFrom_eq N (Or.inr (Or.inr rfl)) (Or.inl rfl) (by decide) (by omega) (by rw [e]; exact hm), Option.bind_some, mu_c (by decide), tkN_c (by decide) (by omega), a1.2.2.2.1]
  · simp only [M5_image, bnd]
    rw [M5_copies_eq N 1 3 hN (by decide), Option.bind_some, mu_c (by decide), cp_c (by decide), mu_c (by decide), tkN_c (by decide) (by omega)]
  · have h3 : ∀ j, j < 52 → mu (cp 1 3 (mu (tkN 32 10 (μ 10 2).toNat μ) 9 10 1)) 0 4 1 3 j = μ 1 j := by
      intro j hj
      rw [mu_c (by decide), cp_to hj, mu_c (by decide), tkN_c (by decide) (by omega)]
    refine Rel_img R ⟨?_, Or.inr ⟨mu_s, ?_, ?_, ?_⟩⟩ ?_ ?_ ?_
    · rw [mu_c (by decide), cp_c (by decide), mu_s, mu_s]
    · refine tk_rel (o := 32) (a := 10) (r := 1) (Or.inr (Or.inr rfl)) (by decide) a1 hm (fun x h1 h2 => ?_) h3
      rw [mu_row (by omega), cp_row (by omega), mu_row (by omega)]
    · exact okR_row a2 h3
    · rw [h3 1 (by decide)]; exact a3
    · intro a h0 h3 h9 h32
      rw [mu_row h0, cp_row h3, mu_row h9, tkN_c (by omega) (by omega)]
    · intro j hj
      rw [mu_j hj, cp_c (by decide), mu_c (by decide), tkN_c (by decide) (by omega)]
    · intro j hj
      rw [mu_c (by decide), cp_c (by decide), mu_j hj, tkN_c (by decide) (by omega)]
theorem op_on (N : Nat) (hN : 53 ≤ N) {μ : mm} (R : Rel μ) : Op (M4_on N) (M5_on N) μ := by
  obtain ⟨⟨a1, a2, a3⟩, ⟨b1, b2⟩, -⟩ := id R
  rcases b2 with b | ⟨b, b3, b4, b5⟩
  · refine Op_ref N R (c := -3) (by decide) ?_ (fun ν hν => ?_)
    · simp only [M4_on]
      rw [b1, b, if_pos (by decide), if_pos rfl, rf4 N (by decide)]
    · simp only [M5_on]
      rw [show ν 0 4 = 0 by rw [hν, r4_c (by decide)]; exact b, if_pos (by decide), if_pos rfl, rf5 N (by decide)]
  · have hm := b4.1
    have e := b3.1
    have en : (μ 32 2).toNat ≤ 8 := by omega
    have h1 : ∀ j, j < 52 → cp 3 1 (tkN 10 32 (μ 32 2).toNat μ) 1 j = μ 3 j := by
      intro j hj
      rw [cp_to hj, tkN_c (by decide) (by omega)]
    refine ⟨μ 3 1, tkN 10 32 (μ 32 2).toNat μ, cp 3 1 (tkN 10 32 (μ 32 2).toNat μ), ?_, ?_, ?_⟩
    · simp only [M4_on]
      rw [b1, b, if_pos (by decide), if_neg (by decide), M1_takeFrom_eq N (Or.inl rfl) (Or.inr (Or.inr rfl)) (by decide) (by omega) (by rw [e]; exact hm), Option.bind_some, tkN_sc (by decide), b3.2.2.2.1]
    · simp only [M5_on]
      rw [tkN_c (by decide) (by omega), b, if_pos (by decide), if_neg (by decide), M5_copies_eq N 3 1 hN (by decide), Option.bind_some, h1 1 (by decide)]
    · refine Rel_off R ⟨?_, ?_, ?_⟩ ?_
      · refine tk_rel (o := 10) (a := 32) (r := 3) (Or.inl rfl) (by decide) b3 hm (fun x h1 h2 => ?_) h1
        rw [cp_row (by omega)]
      · exact okR_row b4 h1
      · rw [h1 1 (by decide)]; exact b5
      · intro a h1 h10 hx
        rw [cp_row h1, tkN_c h10 (by omega)]
