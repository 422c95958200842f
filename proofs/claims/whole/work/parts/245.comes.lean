/-! a STATEMENT, whole; it comes: both sides -/
theorem RS.up {N : Nat} {lt : Nat → Int} {p : Nat} {ν ν2 : mm} {x : Option (Int × mm)} (h : RS N lt p ν2 x) (f : frR ν ν2) : RS N lt p ν x := by
  obtain ⟨ν', e, t, hn, g⟩ := h
  exact ⟨ν', e, t, hn, f.trans g⟩
theorem readsStatement_eq (N : Nat) (hN : 200 ≤ N) {n : Nat} {f : Nat → Int} (F : okF n f) (p : Nat) (hp : p ≤ 200) {ν : mm} (T : TN n f ν) (e : ν 0 10 = (p : Int)) : RS N (ltZ n f) p ν (M5_readsStatement N ν) := by
  have h := ltZ_in F p
  have fr : frR ν (mu ν 0 10 (ν 0 10 + 1)) := ⟨fun j hj => mu_j hj, fun a h0 _ => mu_row h0⟩
  have T2 := TN_fr T fr
  have e2 : mu ν 0 10 (ν 0 10 + 1) 0 10 = ((p + 1 : Nat) : Int) := by rw [mu_s, e]; omega
  unfold M5_readsStatement
  rw [here_eq N F T (by omega) e, Option.bind_some]
  simp only [bnd]
  rw [if_pos (show inR (ltZ n f p) by omega)]
  by_cases c0 : ltZ n f p = 100
  · have z := reads_one N hN F p 63 2 hp (by decide) (show behZ (ltZ n f p) = 63 by rw [c0]; rfl) (by decide) rfl (fun j hj => by
      have : j = 0 ∨ j = 1 := by omega
      rcases this with rfl | rfl <;> decide +kernel) (by decide +kernel) T2 e2 (fun ν' hv => ⟨fun y => by omega, fun y => by omega, fun y => by omega, fun y => by omega, fun _ => hv⟩)
    rw [if_pos c0]
    exact z.up fr
  by_cases c1 : ltZ n f p = 103
  · have z := reads_one N hN F p 61 3 hp (by decide) (show behZ (ltZ n f p) = 61 by rw [c1]; rfl) (by decide) rfl (fun j hj => by
      have : j = 0 ∨ j = 1 ∨ j = 2 := by omega
      rcases this with rfl | rfl | rfl <;> decide +kernel) (by decide +kernel) T2 e2 (fun ν' hv => ⟨fun y => by omega, fun y => by omega, fun y => by omega, fun _ => hv, fun y => by omega⟩)
    rw [if_neg c0, if_neg (by omega), if_neg (by omega), if_pos c1]
    exact z.up fr
  by_cases c2 : ltZ n f p = 105
  · have z := reads_two N hN F p hp (show behZ (ltZ n f p) = 61 by rw [c2]; rfl) T2 e2 (fun ν' hv hw => ⟨fun y => by omega, fun _ => ⟨hv, hw⟩, fun y => by omega, fun y => by omega, fun y => by omega⟩)
    rw [if_neg c0, if_neg (by omega), if_neg (by omega), if_neg c1, if_neg (by omega), if_pos c2]
    exact z.up fr
  by_cases c3 : ltZ n f p = 112
  · have z := reads_p N hN F p hp (show behZ (ltZ n f p) = 60 by rw [c3]; rfl) T2 e2 (fun ν' hu hv hw => ⟨fun _ => ⟨hu, hv, hw⟩, fun y => by omega, fun y => by omega, fun y => by omega, fun y => by omega⟩)
    rw [if_neg c0, if_neg (by omega), if_neg (by omega), if_neg c1, if_neg (by omega), if_neg c2, if_neg (by omega), if_neg (by omega), if_neg (by omega), if_neg (by omega), if_neg (by omega), if_neg (by omega), if_pos c3]
    exact z.up fr
  by_cases c4 : ltZ n f p = 114
  · have z := reads_one N hN F p 62 1 hp (by decide) (show behZ (ltZ n f p) = 62 by rw [c4]; rfl) (by decide) rfl (fun j hj => by
      have : j = 0 := by omega
      subst this
      decide +kernel) (by decide +kernel) T2 e2 (fun ν' hv => ⟨fun y => by omega, fun y => by omega, fun _ => hv, fun y => by omega, fun y => by omega⟩)
    rw [if_neg c0, if_neg (by omega), if_neg (by omega), if_neg c1, if_neg (by omega), if_neg c2, if_neg (by omega), if_neg (by omega), if_neg (by omega), if_neg (by omega), if_neg (by omega), if_neg (by omega), if_neg c3, if_neg (by omega), if_pos c4]
    exact z.up fr
  by_cases c5 : ltZ n f p = 117
  · have z := reads_two N hN F p hp (show behZ (ltZ n f p) = 61 by rw [c5]; rfl) T2 e2 (fun ν' hv hw => ⟨fun y => by omega, fun _ => ⟨hv, hw⟩, fun y => by omega, fun y => by omega, fun y => by omega⟩)
    rw [if_neg c0, if_neg (by omega), if_neg (by omega), if_neg c1, if_neg (by omega), if_neg c2, if_neg (by omega), if_neg (by omega), if_neg (by omega), if_neg (by omega), if_neg (by omega), if_neg (by omega), if_neg c3, if_neg (by omega), if_neg c4, if_neg (by omega), if_neg (by omega), if_pos c5]
    exact z.up fr
  have hr : stR (ltZ n f) p = 64 := by
    show behZ (ltZ n f p) = 64
    unfold behZ
    rw [if_neg c0, if_neg c1, if_neg c2, if_neg c3, if_neg c4, if_neg c5]
  have sB : stB (ltZ n f) p = false := if_pos hr
  have sP : stP (ltZ n f) p = p := if_pos hr
  rw [if_neg c0, if_neg c1, if_neg c2, if_neg c3, if_neg c4, if_neg c5]
  simp only [ite_self]
  unfold RS
  rw [sB, sP, if_neg (by decide)]
  refine ⟨_, rfl, by rw [mu_s, e2]; omega, fun z => (by cases z), fun j hj => by rw [mu_j hj, mu_j hj], fun a h0 _ => by rw [mu_row h0, mu_row h0]⟩
/-! digits -/
theorem dg_dig {lt : Nat → Int} : ∀ d p, dgB lt d p = true → ∀ j, j < d → 48 ≤ lt (p + j) ∧ lt (p + j) ≤ 57 := by
  intro d
  induction d with
  | zero => intro p _ j hj; omega
  | succ d ih =>
    intro p h j hj
    unfold dgB at h
    by_cases c : fitB (lt p) 48 = true
    · rw [if_pos c] at h
      by_cases e : j = 0
      · subst e
        exact fit48.mp c
      · have := ih (p + 1) h (j - 1) (by omega)
        rw [show p + 1 + (j - 1) = p + j by omega] at this
        exact this
    · rw [if_neg c] at h
      cases h
theorem st_digs (N : Nat) {lt : Nat → Int} {p : Nat} (h : stB lt p = true) :
    (lt p = 112 → 0 ≤ kdZ (lt (p + 1)) ∧ (0 ≤ numZ lt (p + 2) 1 ∧ numZ lt (p + 2) 1 ≤ 9) ∧ (0 ≤ numZ lt (p + 3) 2 ∧ numZ lt (p + 3) 2 ≤ 99)) ∧
    ((lt p = 105 ∨ lt p = 117) → (0 ≤ numZ lt (p + 1) 1 ∧ numZ lt (p + 1) 1 ≤ 9) ∧ (0 ≤ numZ lt (p + 2) 2 ∧ numZ lt (p + 2) 2 ≤ 99)) ∧
    (lt p = 114 → 0 ≤ numZ lt (p + 1) 1 ∧ numZ lt (p + 1) 1 ≤ 9) ∧ (lt p = 103 → 0 ≤ numZ lt (p + 1) 3 ∧ numZ lt (p + 1) 3 ≤ 999) ∧ (lt p = 100 → 0 ≤ numZ lt (p + 1) 2 ∧ numZ lt (p + 1) 2 ≤ 99) ∧
    (lt p = 100 ∨ lt p = 103 ∨ lt p = 105 ∨ lt p = 112 ∨ lt p = 114 ∨ lt p = 117) := by
  have n1 : ∀ q, numZ lt q 1 = lt q - 48 := fun q => by show 10 * 0 + lt (q + 0) - 48 = _; rw [Nat.add_zero]; omega
  have n2 : ∀ q, numZ lt q 2 = 10 * (lt q - 48) + lt (q + 1) - 48 := fun q => by show 10 * numZ lt q 1 + lt (q + 1) - 48 = _; rw [n1]
  have n3 : ∀ q, numZ lt q 3 = 10 * (10 * (lt q - 48) + lt (q + 1) - 48) + lt (q + 2) - 48 := fun q => by show 10 * numZ lt q 2 + lt (q + 2) - 48 = _; rw [n2]
  have d1 : ∀ r d, stR lt p = r → r ≠ 64 → lnZ r = d + 1 → (∀ j, j < d → sgZ r j = 48) → sgZ r d = 59 → dgB lt d (p + 1) = true := by
    intro r d hr h64 hl h48 h59
    have := (st_dg lt p r d hr h64 hl h48 h59).1
    rw [h] at this
    by_cases c : dgB lt d (p + 1) = true
    · exact c
    · rw [if_neg c] at this
      cases this
  have s61 : ∀ j, j < 3 → sgZ 61 j = 48 := fun j hj => by
    have : j = 0 ∨ j = 1 ∨ j = 2 := by omega
    rcases this with rfl | rfl | rfl <;> decide +kernel
  refine ⟨fun c => ?_, fun c => ?_, fun c => ?_, fun c => ?_, fun c => ?_, ?_⟩
  · have := (st_p lt p (show behZ (lt p) = 60 by rw [c]; rfl)).1
    rw [h] at this
    by_cases a : fitB (lt (p + 1)) 107 = true
    · rw [if_pos a] at this
      by_cases b : dgB lt 3 (p + 2) = true
      · have q0 := dg_dig 3 (p + 2) b 0 (by decide)
        have q1 := dg_dig 3 (p + 2) b 1 (by decide)
        have q2 := dg_dig 3 (p + 2) b 2 (by decide)
        rw [show p + 2 + 0 = p + 2 by omega] at q0
        rw [show p + 2 + 1 = p + 3 by omega] at q1
        rw [show p + 2 + 2 = p + 3 + 1 by omega] at q2
        rw [n1, n2]
        exact ⟨fit107.mp a, by omega, by omega⟩
      · rw [if_neg b] at this
        cases this
    · rw [if_neg a] at this
      cases this
  · have b := d1 61 3 (by rcases c with c | c <;> (show behZ (lt p) = 61; rw [c]; rfl)) (by decide) rfl s61 (by decide +kernel)
    have q0 := dg_dig 3 (p + 1) b 0 (by decide)
    have q1 := dg_dig 3 (p + 1) b 1 (by decide)
    have q2 := dg_dig 3 (p + 1) b 2 (by decide)
    rw [show p + 1 + 0 = p + 1 by omega] at q0
    rw [show p + 1 + 1 = p + 2 by omega] at q1
    rw [show p + 1 + 2 = p + 2 + 1 by omega] at q2
    rw [n1, n2]
    exact ⟨by omega, by omega⟩
  · have b := d1 62 1 (show behZ (lt p) = 62 by rw [c]; rfl) (by decide) rfl (fun j hj => by
      have : j = 0 := by omega
      subst this
      decide +kernel) (by decide +kernel)
    have q0 := dg_dig 1 (p + 1) b 0 (by decide)
    rw [show p + 1 + 0 = p + 1 by omega] at q0
    rw [n1]
    omega
  · have b := d1 61 3 (show behZ (lt p) = 61 by rw [c]; rfl) (by decide) rfl s61 (by decide +kernel)
    have q0 := dg_dig 3 (p + 1) b 0 (by decide)
    have q1 := dg_dig 3 (p + 1) b 1 (by decide)
    have q2 := dg_dig 3 (p + 1) b 2 (by decide)
    rw [show p + 1 + 0 = p + 1 by omega] at q0
    rw [n3]
    omega
  · have b := d1 63 2 (show behZ (lt p) = 63 by rw [c]; rfl) (by decide) rfl (fun j hj => by
      have : j = 0 ∨ j = 1 := by omega
      rcases this with rfl | rfl <;> decide +kernel) (by decide +kernel)
    have q0 := dg_dig 2 (p + 1) b 0 (by decide)
    have q1 := dg_dig 2 (p + 1) b 1 (by decide)
    rw [show p + 1 + 0 = p + 1 by omega] at q0
    rw [n2]
    omega
  · by_cases c0 : lt p = 100
    · exact Or.inl c0
    by_cases c1 : lt p = 103
    · exact Or.inr (Or.inl c1)
    by_cases c2 : lt p = 105
    · exact Or.inr (Or.inr (Or.inl c2))
    by_cases c3 : lt p = 112
    · exact Or.inr (Or.inr (Or.inr (Or.inl c3)))
    by_cases c4 : lt p = 114
    · exact Or.inr (Or.inr (Or.inr (Or.inr (Or.inl c4))))
    by_cases c5 : lt p = 117
    · exact Or.inr (Or.inr (Or.inr (Or.inr (Or.inr c5))))
    have hr : stR lt p = 64 := by
      show behZ (lt p) = 64
      unfold behZ
      rw [if_neg c0, if_neg c1, if_neg c2, if_neg c3, if_neg c4, if_neg c5]
    have sB : stB lt p = false := if_pos hr
    rw [h] at sB
    cases sB
theorem XS_of {f f' g g' : mm → Option (Int × mm)} {ξ ν : mm} (h : XS f' g' ξ ν) (hf : ∀ r ξ', f' ξ = some (r, ξ') → (r = 0 ∨ r = 1) → f ξ = some (r, ξ')) (hg : ∀ r ν', g' ν = some (r, ν') → (r = 0 ∨ r = 1) → g ν = some (r, ν')) : XS f g ξ ν := by
  obtain ⟨r, ξ', ν', h1, h2, h3, rest⟩ := h
  exact ⟨r, ξ', ν', hf r ξ' h1 h3, hg r ν' h2 h3, h3, rest⟩
theorem comes_eq (N : Nat) (hN : 200 ≤ N) {n : Nat} {f : Nat → Int} (F : okF n f) (p : Nat) (hp : p ≤ 200) {ξ ν : mm} (T : TX n f ξ) (X : relX 21 1 ξ ν) (ok : okR ν 1) (hd : ν 1 1 ≤ 999) (h31 : ∀ k, k < 6 → ξ 31 k = 0) (h : stB (ltZ n f) p = true) (hn : numsZ (ltZ n f) p ν) : XS (M4_comes N (p : Int)) (M5_isDone N (ltZ n f p)) ξ ν := by
  obtain ⟨d1, d2, d3, d4, d5, d6⟩ := st_digs N h
  have n11 := number_eq N F T (p + 1) 1 (by omega) (by decide) hN
  have n12 := number_eq N F T (p + 1) 2 (by omega) (by decide) hN
  have n13 := number_eq N F T (p + 1) 3 (by omega) (by decide) hN
  have n22 := number_eq N F T (p + 2) 2 (by omega) (by decide) hN
  have n21 := number_eq N F T (p + 2) 1 (by omega) (by decide) hN
  have n32 := number_eq N F T (p + 3) 2 (by omega) (by decide) hN
  have k1 := kindAt_eq N hN F T (p + 1) (by omega)
  rw [show ((p + 1 : Nat) : Int) = (p : Int) + 1 by omega] at n11 n12 n13 k1
  rw [show ((p + 2 : Nat) : Int) = (p : Int) + 2 by omega] at n22 n21
  rw [show ((p + 3 : Nat) : Int) = (p : Int) + 3 by omega] at n32
  rw [show ((1 : Nat) : Int) = 1 from rfl] at n11 n21
  rw [show ((2 : Nat) : Int) = 2 from rfl] at n12 n22 n32
  rw [show ((3 : Nat) : Int) = 3 from rfl] at n13
  have el := letterAt_eq N F T p (by omega)
  obtain ⟨m1, m2, m3, m4, m5⟩ := hn
  rcases d6 with c | c | c | c | c | c
  · have v := d5 c
    have w := m5 c
    refine XS_of (x_days N hN X ok hd v) (fun r ξ' e hr => ?_) (fun r ν' e hr => ?_)
    · unfold M4_comes
      rw [n11, Option.bind_some, el, Option.bind_some, c, if_pos (by decide), if_pos rfl, n12, Option.bind_some, e, Option.bind_some]
      exact if_pos hr
    · unfold M5_isDone
      simp only [bnd]
      rw [c, w, if_pos (by decide), if_neg (by decide), if_neg (by decide), if_neg (by decide), if_neg (by decide), if_neg (by decide), if_neg (by decide), if_neg (by decide), if_neg (by decide), if_neg (by decide), if_neg (by decide), if_neg (by decide), if_neg (by decide), if_neg (by decide), if_neg (by decide), if_neg (by decide)]
      exact e
  · have v := d4 c
    have w := m4 c
    refine XS_of (x_fill N X ok hd v) (fun r ξ' e hr => ?_) (fun r ν' e hr => ?_)
    · unfold M4_comes
      rw [n11, Option.bind_some, el, Option.bind_some, c, if_pos (by decide), if_neg (by decide), if_neg (by decide), if_neg (by decide), if_pos rfl, n13, Option.bind_some, e, Option.bind_some]
      exact if_pos hr
    · unfold M5_isDone
      simp only [bnd]
      rw [c, w, if_pos (by decide), if_pos rfl]
      exact e
  · obtain ⟨v1, v2⟩ := d2 (Or.inl c)
    obtain ⟨w1, w2⟩ := m2 (Or.inl c)
    refine XS_of (x_issue N X ok hd v1 v2) (fun r ξ' e hr => ?_) (fun r ν' e hr => ?_)
    · unfold M4_comes
      rw [n11, Option.bind_some, el, Option.bind_some, c, if_pos (by decide), if_neg (by decide), if_neg (by decide), if_neg (by decide), if_neg (by decide), if_neg (by decide), if_pos rfl, n22, Option.bind_some, e, Option.bind_some]
      exact if_pos hr
    · unfold M5_isDone
      simp only [bnd]
      rw [c, w1, w2, if_pos (by decide), if_neg (by decide), if_neg (by decide), if_pos rfl]
      exact e
  · obtain ⟨v1, v2, v3⟩ := d1 c
    obtain ⟨w1, w2, w3⟩ := m1 c
    have hk := kdZ_in (ltZ n f (p + 1))
    refine XS_of (x_adds N hN X ok hd h31 (a := kdZ (ltZ n f (p + 1))) (by omega) v2 v3) (fun r ξ' e hr => ?_) (fun r ν' e hr => ?_)
    · unfold M4_comes
      rw [n11, Option.bind_some, el, Option.bind_some, c, if_pos (by decide), if_neg (by decide), if_neg (by decide), if_neg (by decide), if_neg (by decide), if_neg (by decide), if_neg (by decide), if_neg (by decide), if_neg (by decide), if_neg (by decide), if_neg (by decide), if_neg (by decide), if_neg (by decide), if_pos rfl, k1, Option.bind_some, n21, Option.bind_some, n32, Option.bind_some, e, Option.bind_some]
      exact if_pos hr
    · unfold M5_isDone
      simp only [bnd]
      rw [c, w1, w2, w3, if_pos (by decide), if_neg (by decide), if_neg (by decide), if_neg (by decide), if_neg (by decide), if_neg (by decide), if_neg (by decide), if_neg (by decide), if_neg (by decide), if_neg (by decide), if_pos rfl, e, Option.bind_some]
      exact if_pos hr
  · have v := d3 c
    have w := m3 c
    refine XS_of (x_hand N X ok hd v) (fun r ξ' e hr => ?_) (fun r ν' e hr => ?_)
    · unfold M4_comes
      rw [n11, Option.bind_some, el, Option.bind_some, c, if_pos (by decide), if_neg (by decide), if_neg (by decide), if_neg (by decide), if_neg (by decide), if_neg (by decide), if_neg (by decide), if_neg (by decide), if_neg (by decide), if_neg (by decide), if_neg (by decide), if_neg (by decide), if_neg (by decide), if_neg (by decide), if_neg (by decide), if_pos rfl, e, Option.bind_some]
      exact if_pos hr
    · unfold M5_isDone
      simp only [bnd]
      rw [c, w, if_pos (by decide), if_neg (by decide), if_neg (by decide), if_neg (by decide), if_neg (by decide), if_neg (by decide), if_neg (by decide), if_neg (by decide), if_neg (by decide), if_neg (by decide), if_neg (by decide), if_neg (by decide), if_pos rfl]
      exact e
  · obtain ⟨v1, v2⟩ := d2 (Or.inr c)
    obtain ⟨w1, w2⟩ := m2 (Or.inr c)
    refine XS_of (x_due N X ok hd v1 v2) (fun r ξ' e hr => ?_) (fun r ν' e hr => ?_)
    · unfold M4_comes
      rw [n11, Option.bind_some, el, Option.bind_some, c, if_pos (by decide), if_neg (by decide), if_neg (by decide), if_neg (by decide), if_neg (by decide), if_neg (by decide), if_neg (by decide), if_neg (by decide), if_neg (by decide), if_neg (by decide), if_neg (by decide), if_neg (by decide), if_neg (by decide), if_neg (by decide), if_neg (by decide), if_neg (by decide), if_neg (by decide), if_neg (by decide), if_pos rfl, n22, Option.bind_some, e, Option.bind_some]
      exact if_pos hr
    · unfold M5_isDone
      simp only [bnd]
      rw [c, w1, w2, if_pos (by decide), if_neg (by decide), if_neg (by decide), if_neg (by decide), if_neg (by decide), if_neg (by decide), if_neg (by decide), if_neg (by decide), if_neg (by decide), if_neg (by decide), if_neg (by decide), if_neg (by decide), if_neg (by decide), if_neg (by decide), if_neg (by decide), if_pos rfl]
      exact e
