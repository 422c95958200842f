/-! letters of a COUNTER, as both sides see them -/
def ltZ (n : Nat) (f : Nat → Int) (p : Nat) : Int := if p < n then f p else -1
def okF (n : Nat) (f : Nat → Int) : Prop := n ≤ 96 ∧ ∀ j, j < n → 0 ≤ f j ∧ f j ≤ 255
def TX (n : Nat) (f : Nat → Int) (ξ : mm) : Prop := ξ 44 1 = (n : Int) ∧ ∀ j, j < n → ξ 45 j = f j
def TN (n : Nat) (f : Nat → Int) (ν : mm) : Prop := ν 0 8 = (n : Int) ∧ ∀ j, j < n → ν 5 j = f j
def kdZ (c : Int) : Int := if c = 99 then 0 else if c = 109 then 1 else if c = 104 then 2 else if c = 116 then 3 else if c = 100 then 4 else if c = 103 then 5 else -1
theorem kdZ_in (c : Int) : -1 ≤ kdZ c ∧ kdZ c ≤ 5 := by
  unfold kdZ
  repeat' split
  all_goals omega
theorem ltZ_in {n : Nat} {f : Nat → Int} (F : okF n f) (p : Nat) : -1 ≤ ltZ n f p ∧ ltZ n f p ≤ 255 := by
  unfold ltZ
  by_cases c : p < n
  · rw [if_pos c]
    have := F.2 p c
    omega
  · rw [if_neg c]
    omega
theorem letterAt_eq (N : Nat) {n : Nat} {f : Nat → Int} {ξ : mm} (F : okF n f) (T : TX n f ξ) (p : Nat) (hp : p ≤ 1000) : M3_letterAt N (p : Int) ξ = some (ltZ n f p) := by
  have hn := F.1
  unfold M3_letterAt ltZ
  rw [T.1, if_pos (show inR (p : Int) by omega), if_neg (show ¬ (p : Int) < 0 by omega), if_pos (show inR (p : Int) ∧ inR (n : Int) by omega)]
  by_cases c : p < n
  · rw [if_neg (show ¬ (n : Int) ≤ (p : Int) by omega), if_pos (show inR (p : Int) by omega), if_neg (show ¬ 96 ≤ (p : Int) by omega), if_pos (show 0 ≤ (p : Int) ∧ (p : Int) < 96 by omega), Int.toNat_natCast, T.2 p c, if_pos c]
  · rw [if_pos (show (n : Int) ≤ (p : Int) by omega), if_neg c]
theorem here_eq (N : Nat) {n : Nat} {f : Nat → Int} {ν : mm} (F : okF n f) (T : TN n f ν) {p : Nat} (hp : p ≤ 1000) (e : ν 0 10 = (p : Int)) : M5_here N ν = some (ltZ n f p) := by
  have hn := F.1
  unfold M5_here ltZ
  rw [T.1, e, if_pos (show inR (p : Int) ∧ inR (n : Int) by omega)]
  by_cases c : p < n
  · rw [if_neg (show ¬ (n : Int) ≤ (p : Int) by omega), if_pos (show 0 ≤ (p : Int) ∧ (p : Int) < 96 by omega), Int.toNat_natCast, T.2 p c, if_pos c]
  · rw [if_pos (show (n : Int) ≤ (p : Int) by omega), if_neg c]
/-! the JDK's indexOf over the constant of kinds -/
theorem bch_in (b k : Nat) : inR (bch b k) := by
  have a := Int32.toInt_lt ((bytS.getD (b - 80) []).getD k 0)
  have c := Int32.le_toInt ((bytS.getD (b - 80) []).getD k 0)
  unfold bch
  omega
theorem blen85 : blen 85 = 6 := rfl
theorem ixc_step (N k i : Nat) (hi : i < 6) {w : Int} (hw : inR w) (μ : mm) : L1_indexOfChar_4cfef_7 N (k + 1) 85 6 w (i : Int) μ = if bch 85 i = w then some (i : Int) else L1_indexOfChar_4cfef_7 N k 85 6 w ((i + 1 : Nat) : Int) μ := by
  rw [L1_indexOfChar_4cfef_7, if_pos (show inR (i : Int) ∧ inR (6 : Int) by omega), if_neg (show ¬ (6 : Int) ≤ (i : Int) by omega), if_pos (show 0 ≤ (i : Int) ∧ (i : Int) < blen 85 by rw [blen85]; omega), Int.toNat_natCast, if_pos (show inR (bch 85 i) ∧ inR w from ⟨bch_in _ _, hw⟩)]
  rfl
theorem ixc_all (N k : Nat) {w : Int} (hw : inR w) (μ : mm) : L1_indexOfChar_4cfef_7 N (k + 7) 85 6 w 0 μ = some (kdZ w) := by
  have b0 : bch 85 0 = 99 := by decide +kernel
  have b1 : bch 85 1 = 109 := by decide +kernel
  have b2 : bch 85 2 = 104 := by decide +kernel
  have b3 : bch 85 3 = 116 := by decide +kernel
  have b4 : bch 85 4 = 100 := by decide +kernel
  have b5 : bch 85 5 = 103 := by decide +kernel
  have e := ixc_step N (k + 6) 0 (by decide) hw μ
  rw [show ((0 : Nat) : Int) = 0 from rfl] at e
  rw [e, ixc_step N (k + 5) 1 (by decide) hw, ixc_step N (k + 4) 2 (by decide) hw, ixc_step N (k + 3) 3 (by decide) hw, ixc_step N (k + 2) 4 (by decide) hw, ixc_step N (k + 1) 5 (by decide) hw, L1_indexOfChar_4cfef_7, if_pos (show inR ((5 + 1 : Nat) : Int) ∧ inR (6 : Int) by decide), if_pos (show (6 : Int) ≤ ((5 + 1 : Nat) : Int) by decide), b0, b1, b2, b3, b4, b5]
  unfold kdZ
  by_cases c0 : w = 99
  · rw [if_pos c0.symm, if_pos c0]
  · rw [if_neg (fun z => c0 z.symm), if_neg c0]
    by_cases c1 : w = 109
    · rw [if_pos c1.symm, if_pos c1]; rfl
    · rw [if_neg (fun z => c1 z.symm), if_neg c1]
      by_cases c2 : w = 104
      · rw [if_pos c2.symm, if_pos c2]; rfl
      · rw [if_neg (fun z => c2 z.symm), if_neg c2]
        by_cases c3 : w = 116
        · rw [if_pos c3.symm, if_pos c3]; rfl
        · rw [if_neg (fun z => c3 z.symm), if_neg c3]
          by_cases c4 : w = 100
          · rw [if_pos c4.symm, if_pos c4]; rfl
          · rw [if_neg (fun z => c4 z.symm), if_neg c4]
            by_cases c5 : w = 103
            · rw [if_pos c5.symm, if_pos c5]; rfl
            · rw [if_neg (fun z => c5 z.symm), if_neg c5]
theorem kdZ_byte {q : Int} (h : 0 ≤ q ∧ q ≤ 255) : kdZ ((q + 128) % 256 - 128) = kdZ q := by
  unfold kdZ
  repeat' split
  all_goals first | rfl | omega
theorem indexOf_eq (N : Nat) (hN : 200 ≤ N) {q : Int} (h : 0 ≤ q ∧ q ≤ 255) (μ : mm) : M0_indexOf_0f7a4 N 65 q μ = some (kdZ q) := by
  have e := ixc_all N (N - 7) (w := (q + 128) % 256 - 128) (by omega) μ
  rw [show N - 7 + 7 = N by omega, kdZ_byte h] at e
  have e1 : M1_indexOf_4cfef N (65 + 20) q 0 6 μ = some (kdZ q) := by
    have a1 : M1_canEncode_9a6ad N q μ = some 1 := by
      unfold M1_canEncode_9a6ad
      rw [if_pos (show inR q by omega), if_neg (show ¬ q < 0 by omega), if_pos (show inR q by omega), if_neg (show ¬ 255 < q by omega)]
    unfold M1_indexOf_4cfef
    rw [a1, Option.bind_some, if_pos (show inR (1 : Int) by decide), if_neg (show ¬ (1 : Int) = 0 by decide), if_pos (show inR (0 : Int) by decide)]
    simp only [bnd]
    rw [show (if (0 : Int) < 0 then (0 : Int) else 0) = 0 from rfl, show blen (65 + 20) = 6 from rfl, if_pos (show inR (6 : Int) ∧ inR (6 : Int) by decide), show (if (6 : Int) < 6 then (6 : Int) else 6) = 6 from rfl, if_pos (show inR (0 : Int) ∧ inR (6 : Int) by decide), if_pos (show (0 : Int) < 6 by decide)]
    unfold M1_indexOfChar_4cfef
    simp only [bnd]
    rw [show 65 + 20 = 85 from rfl, e, Option.bind_some]
  unfold M0_indexOf_0f7a4 M0_indexOf_7cf53
  rw [show M0_isLatin1_aae02 N 65 μ = some 1 from rfl, Option.bind_some, if_pos (show inR (1 : Int) by decide), if_neg (show ¬ (1 : Int) = 0 by decide), len65, Option.bind_some, e1, Option.bind_some, Option.bind_some]
theorem kindAt_eq (N : Nat) (hN : 200 ≤ N) {n : Nat} {f : Nat → Int} {ξ : mm} (F : okF n f) (T : TX n f ξ) (p : Nat) (hp : p ≤ 1000) : M3_kindAt N (p : Int) ξ = some (kdZ (ltZ n f p)) := by
  have h := ltZ_in F p
  unfold M3_kindAt
  rw [letterAt_eq N F T p hp, Option.bind_some, if_pos (show inR (ltZ n f p) by omega)]
  by_cases c : 0 ≤ ltZ n f p
  · rw [if_pos c, if_pos (show 0 ≤ ltZ n f p ∧ ltZ n f p < 65536 by omega), indexOf_eq N hN (by omega), Option.bind_some]
  · rw [if_neg c, show ltZ n f p = -1 by omega]
    rfl
theorem kindBy_eq (N : Nat) {c : Int} (h : -1 ≤ c ∧ c ≤ 255) (μ : mm) : M5_kindBy N c μ = some (if kdZ c < 0 then -9 else kdZ c) := by
  by_cases a : c = 99
  · subst a; rfl
  by_cases a1 : c = 109
  · subst a1; rfl
  by_cases a2 : c = 104
  · subst a2; rfl
  by_cases a3 : c = 116
  · subst a3; rfl
  by_cases a4 : c = 100
  · subst a4; rfl
  by_cases a5 : c = 103
  · subst a5; rfl
  have e : kdZ c = -1 := by
    unfold kdZ
    rw [if_neg a, if_neg a1, if_neg a2, if_neg a3, if_neg a4, if_neg a5]
  rw [e, if_pos (by decide)]
  unfold M5_kindBy
  rw [if_pos (show inR c by omega), if_neg a, if_neg a4, if_neg a5, if_neg a2, if_neg a1, if_neg a3]
  simp only [ite_self]
/-! numbers -/
def numZ (lt : Nat → Int) (p : Nat) : Nat → Int
  | 0 => 0
  | d + 1 => 10 * numZ lt p d + lt (p + d) - 48
theorem number_eq (N : Nat) {n : Nat} {f : Nat → Int} {ξ : mm} (F : okF n f) (T : TX n f ξ) (p d : Nat) (hp : p ≤ 900) (hd : d ≤ 9) (hN : 200 ≤ N) : M3_number N (p : Int) (d : Int) ξ = some (numZ (ltZ n f) p d) := by
  have : ∀ k i : Nat, i ≤ d → d < i + k → L3_number_5 N k (p : Int) (d : Int) (numZ (ltZ n f) p i) (i : Int) ξ = some (numZ (ltZ n f) p d) := by
    intro k
    induction k with
    | zero => intro i h1 h2; omega
    | succ k ih =>
      intro i h1 h2
      rw [L3_number_5, if_pos (show inR (i : Int) ∧ inR (d : Int) by omega)]
      by_cases c : (d : Int) ≤ (i : Int)
      · rw [if_pos c, show i = d by omega]
      · rw [if_neg c, show (p : Int) + (i : Int) = ((p + i : Nat) : Int) by omega, letterAt_eq N F T (p + i) (by omega), Option.bind_some]
        simp only [bnd]
        rw [show numZ (ltZ n f) p i * 10 + ltZ n f (p + i) - 48 = numZ (ltZ n f) p (i + 1) by show _ = 10 * numZ (ltZ n f) p i + ltZ n f (p + i) - 48; omega]
        exact ih (i + 1) (by omega) (by omega)
  exact this N 0 (by omega) (by omega)
/-! shapes -/
def sgZ (r i : Nat) : Int := bch (r + 20) i % 256
def lnZ (r : Nat) : Nat := lenS.getD (r - 60) 0
def behZ (c : Int) : Nat := if c = 100 then 63 else if c = 103 then 61 else if c = 105 then 61 else if c = 112 then 60 else if c = 114 then 62 else if c = 117 then 61 else 64
theorem behZ_in (c : Int) : 60 ≤ behZ c ∧ behZ c < 65 := by
  unfold behZ
  repeat' split
  all_goals omega
theorem behind_eq (N : Nat) {c : Int} (h : inR c) (μ : mm) : M3_behind N c μ = some (behZ c) := by
  by_cases a : c = 100
  · subst a; rfl
  by_cases a1 : c = 103
  · subst a1; rfl
  by_cases a2 : c = 105
  · subst a2; rfl
  by_cases a3 : c = 112
  · subst a3; rfl
  by_cases a4 : c = 114
  · subst a4; rfl
  by_cases a5 : c = 117
  · subst a5; rfl
  have e : behZ c = 64 := by
    unfold behZ
    rw [if_neg a, if_neg a1, if_neg a2, if_neg a3, if_neg a4, if_neg a5]
  rw [e]
  unfold M3_behind
  rw [if_pos h, if_neg a, if_neg a1, if_neg a2, if_neg a3, if_neg a4, if_neg a5]
  simp only [ite_self]
theorem lnZ_len (N : Nat) {r : Nat} (h : 60 ≤ r ∧ r < 65) (μ : mm) : M0_length_8abf5 N r μ = some (lnZ r : Int) ∧ blen (r + 20) = (lnZ r : Int) ∧ lnZ r ≤ 5 ∧ (lnZ r = 0 ↔ r = 64) := by
  have : r = 60 ∨ r = 61 ∨ r = 62 ∨ r = 63 ∨ r = 64 := by omega
  rcases this with rfl | rfl | rfl | rfl | rfl
  · exact ⟨rfl, rfl, by decide, by decide⟩
  · exact ⟨rfl, rfl, by decide, by decide⟩
  · exact ⟨rfl, rfl, by decide, by decide⟩
  · exact ⟨rfl, rfl, by decide, by decide⟩
  · exact ⟨rfl, rfl, by decide, by decide⟩
theorem charAt_eq (N : Nat) {r i : Nat} (h : 60 ≤ r ∧ r < 65) (hi : i < lnZ r) (μ : mm) : M0_charAt_5068e N r (i : Int) μ = some (sgZ r i) := by
  obtain ⟨-, hb, h5, -⟩ := lnZ_len N h μ
  have hs : 0 ≤ bch (r + 20) i % 256 ∧ bch (r + 20) i % 256 < 65536 := by omega
  have e : M1_charAt_3b067 N (r + 20) (i : Int) μ = some (sgZ r i) := by
    unfold M1_charAt_3b067 M0_checkIndex_df160
    rw [hb, if_pos (show inR (i : Int) ∧ inR (lnZ r : Int) ∧ 0 ≤ (i : Int) ∧ (i : Int) < (lnZ r : Int) by omega), Option.bind_some, if_pos (show 0 ≤ (i : Int) ∧ (i : Int) < (lnZ r : Int) by omega), Int.toNat_natCast, if_pos hs, if_pos hs]
    rfl
  unfold M0_charAt_5068e
  rw [show M0_isLatin1_aae02 N r μ = some 1 from rfl, Option.bind_some, if_pos (show inR (1 : Int) by decide), if_neg (show ¬ (1 : Int) = 0 by decide), e, Option.bind_some, if_pos (show 0 ≤ sgZ r i ∧ sgZ r i < 65536 from hs)]
def fitB (c s : Int) : Bool := if s = 48 then decide (48 ≤ c ∧ c ≤ 57) else if s = 107 then decide (0 ≤ kdZ c) else decide (c = s)
theorem fits_eq (N : Nat) (hN : 200 ≤ N) {n : Nat} {f : Nat → Int} {ξ : mm} (F : okF n f) (T : TX n f ξ) (p : Nat) (hp : p ≤ 1000) {s : Int} (hs : inR s) : M3_fits N (p : Int) s ξ = some (if fitB (ltZ n f p) s = true then 1 else 0) := by
  have h := ltZ_in F p
  have hk := kdZ_in (ltZ n f p)
  unfold M3_fits fitB
  rw [letterAt_eq N F T p hp, Option.bind_some, if_pos hs, kindAt_eq N hN F T p hp, Option.bind_some, if_pos (show inR (ltZ n f p) by omega), if_pos (show inR (kdZ (ltZ n f p)) by omega), if_pos (show inR (ltZ n f p) by omega), if_pos (show inR (ltZ n f p) ∧ inR s by omega)]
  by_cases a : s = 48
  · rw [if_pos a, if_pos a]
    by_cases b : ltZ n f p < 48
    · rw [if_pos b, if_neg (by rw [decide_eq_true_eq]; omega)]
    · rw [if_neg b]
      by_cases c : 57 < ltZ n f p
      · rw [if_pos c, if_neg (by rw [decide_eq_true_eq]; omega)]
      · rw [if_neg c, if_pos (by rw [decide_eq_true_eq]; omega)]
  · rw [if_neg a, if_neg a]
    by_cases b : s = 107
    · rw [if_pos b, if_pos b]
      by_cases c : kdZ (ltZ n f p) < 0
      · rw [if_pos c, if_neg (by rw [decide_eq_true_eq]; omega)]
      · rw [if_neg c, if_pos (by rw [decide_eq_true_eq]; omega)]
    · rw [if_neg b, if_neg b]
      by_cases c : ltZ n f p = s
      · rw [if_pos c, if_pos (by rw [decide_eq_true_eq]; exact c)]
      · rw [if_neg c, if_neg (by rw [decide_eq_true_eq]; exact c)]
def mtB (lt : Nat → Int) (r : Nat) : Nat → Nat → Nat → Bool
  | 0, _, _ => true
  | k + 1, i, p => if fitB (lt p) (sgZ r i) = true then mtB lt r k (i + 1) (p + 1) else false
def mtP (lt : Nat → Int) (r : Nat) : Nat → Nat → Nat → Nat
  | 0, _, p => p
  | k + 1, i, p => if fitB (lt p) (sgZ r i) = true then mtP lt r k (i + 1) (p + 1) else p
theorem mtP_in (lt : Nat → Int) (r : Nat) : ∀ k i p, p ≤ mtP lt r k i p ∧ mtP lt r k i p ≤ p + k := by
  intro k
  induction k with
  | zero => intro i p; exact ⟨Nat.le_refl _, Nat.le_refl _⟩
  | succ k ih =>
    intro i p
    have := ih (i + 1) (p + 1)
    unfold mtP
    split <;> omega
theorem mtP_all (lt : Nat → Int) (r : Nat) : ∀ k i p, mtB lt r k i p = true → mtP lt r k i p = p + k := by
  intro k
  induction k with
  | zero => intro i p _; rfl
  | succ k ih =>
    intro i p h
    unfold mtB at h
    unfold mtP
    by_cases c : fitB (lt p) (sgZ r i) = true
    · rw [if_pos c] at h
      rw [if_pos c, ih _ _ h]
      omega
    · rw [if_neg c] at h
      cases h
theorem wrong42 (N : Nat) (hN : 200 ≤ N) {n : Nat} {f : Nat → Int} {ξ : mm} (F : okF n f) (T : TX n f ξ) (rec : Int → mm → Option Int) {r : Nat} (hr : 60 ≤ r ∧ r < 65) : ∀ (k i p : Nat), p + lnZ r ≤ i + 900 → i ≤ lnZ r → lnZ r < i + k →
    L3_firstWrong_42 N rec k (p : Int) r (i : Int) ξ = if mtB (ltZ n f) r (lnZ r - i) i p = true then rec ((mtP (ltZ n f) r (lnZ r - i) i p : Nat) : Int) ξ else some ((mtP (ltZ n f) r (lnZ r - i) i p : Nat) : Int) := by
  obtain ⟨hl, -, h5, -⟩ := lnZ_len N hr ξ
  intro k
  induction k with
  | zero => intro i p h1 h2; omega
  | succ k ih =>
    intro i p hp h1 h2
    rw [L3_firstWrong_42, hl, Option.bind_some, if_pos (show inR (i : Int) ∧ inR (lnZ r : Int) by omega)]
    by_cases c : (lnZ r : Int) ≤ (i : Int)
    · rw [if_pos c, show lnZ r - i = 0 by omega, mtB, if_pos rfl]
      rfl
    · rw [if_neg c, charAt_eq N hr (by omega), Option.bind_some, fits_eq N hN F T p (by omega) (show inR (sgZ r i) by unfold sgZ; omega), Option.bind_some, show lnZ r - i = (lnZ r - (i + 1)) + 1 by omega, mtB, mtP]
      by_cases d : fitB (ltZ n f p) (sgZ r i) = true
      · rw [if_pos d, if_pos (by decide), if_neg (by decide), if_pos d, if_pos d]
        exact ih (i + 1) (p + 1) (by omega) (by omega) (by omega)
      · rw [if_neg d, if_pos (by decide), if_pos rfl, if_neg d, if_neg (by decide), if_neg d]
/-- a STATEMENT at place p: whether one is there, and the place behind what fits of it -/
def stR (lt : Nat → Int) (p : Nat) : Nat := behZ (lt p)
def stB (lt : Nat → Int) (p : Nat) : Bool := if stR lt p = 64 then false else mtB lt (stR lt p) (lnZ (stR lt p)) 0 (p + 1)
def stP (lt : Nat → Int) (p : Nat) : Nat := if stR lt p = 64 then p else mtP lt (stR lt p) (lnZ (stR lt p)) 0 (p + 1)
theorem stP_in (N : Nat) (lt : Nat → Int) (p : Nat) : p ≤ stP lt p ∧ stP lt p ≤ p + 6 ∧ (stB lt p = true → p + 1 ≤ stP lt p ∧ stP lt p = p + 1 + lnZ (stR lt p)) := by
  have h := behZ_in (lt p)
  have hl := (lnZ_len N (r := stR lt p) h (fun _ _ => 0)).2.2.1
  have hm := mtP_in lt (stR lt p) (lnZ (stR lt p)) 0 (p + 1)
  unfold stP stB
  by_cases c : stR lt p = 64
  · rw [if_pos c, if_pos c]
    exact ⟨Nat.le_refl _, by omega, fun z => by cases z⟩
  · rw [if_neg c, if_neg c]
    exact ⟨by omega, by omega, fun z => ⟨by omega, mtP_all lt _ _ _ _ z⟩⟩
/-- the place of the first letter with which no COUNTER can go on; -1 -/
def gwZ (lt : Nat → Int) (n : Nat) : Nat → Nat → Int
  | 0, _ => -1
  | k + 1, p => if n ≤ p then -1 else if stB lt p = true then gwZ lt n k (stP lt p) else (stP lt p : Int)
def wfZ (lt : Nat → Int) (n : Nat) : Nat → Nat → Prop
  | 0, _ => True
  | k + 1, p => n ≤ p ∨ (stB lt p = true ∧ wfZ lt n k (stP lt p))
def cnZ (lt : Nat → Int) (n : Nat) : Nat → Nat → Int
  | 0, _ => 0
  | k + 1, p => if n ≤ p then 0 else 1 + cnZ lt n k (stP lt p)
theorem gw_wf (lt : Nat → Int) (n : Nat) : ∀ k p, gwZ lt n k p < 0 → wfZ lt n k p := by
  intro k
  induction k with
  | zero => intro p _; trivial
  | succ k ih =>
    intro p h
    unfold gwZ at h
    by_cases c : n ≤ p
    · exact Or.inl c
    · rw [if_neg c] at h
      by_cases d : stB lt p = true
      · rw [if_pos d] at h
        exact Or.inr ⟨d, ih _ h⟩
      · rw [if_neg d] at h
        omega
theorem gwZ_in (lt : Nat → Int) (n : Nat) : ∀ k p, -1 ≤ gwZ lt n k p ∧ gwZ lt n k p ≤ n + 6 := by
  intro k
  induction k with
  | zero => intro p; show -1 ≤ (-1 : Int) ∧ (-1 : Int) ≤ n + 6; omega
  | succ k ih =>
    intro p
    have hs := stP_in 0 lt p
    unfold gwZ
    by_cases c : n ≤ p
    · rw [if_pos c]
      omega
    · rw [if_neg c]
      by_cases d : stB lt p = true
      · rw [if_pos d]
        exact ih _
      · rw [if_neg d]
        omega
theorem wrong11 (N : Nat) (hN : 200 ≤ N) {n : Nat} {f : Nat → Int} {ξ : mm} (F : okF n f) (T : TX n f ξ) : ∀ (k p : Nat), p ≤ n + 6 → n + 7 < p + k → L3_firstWrong_11 N k (p : Int) ξ = some (gwZ (ltZ n f) n k p) := by
  have hn := F.1
  intro k
  induction k with
  | zero =>
    intro p hp h
    omega
  | succ k ih =>
    intro p hp h
    rw [L3_firstWrong_11, T.1, if_pos (show inR (p : Int) ∧ inR (n : Int) by omega), gwZ]
    by_cases c : n ≤ p
    · rw [if_pos (show (n : Int) ≤ (p : Int) by omega), if_pos c]
    · have hl := ltZ_in F p
      have hr := behZ_in (ltZ n f p)
      obtain ⟨-, hb, h5, h0⟩ := lnZ_len N (r := behZ (ltZ n f p)) hr ξ
      rw [if_neg (show ¬ (n : Int) ≤ (p : Int) by omega), if_neg c, letterAt_eq N F T p (by omega), Option.bind_some, behind_eq N (show inR (ltZ n f p) by omega), Option.bind_some, if_pos (show 60 ≤ behZ (ltZ n f p) ∧ behZ (ltZ n f p) < 66 by omega)]
      unfold M0_isEmpty_aae02
      rw [hb, if_pos (show inR (lnZ (behZ (ltZ n f p)) : Int) by omega)]
      by_cases e : behZ (ltZ n f p) = 64
      · rw [if_pos (show (lnZ (behZ (ltZ n f p)) : Int) = 0 by rw [h0.mpr e]; rfl), Option.bind_some, if_pos (by decide), if_neg (by decide)]
        have e1 : stB (ltZ n f) p = false := if_pos e
        have e2 : stP (ltZ n f) p = p := if_pos e
        rw [e1, e2, if_neg (by decide)]
      · have e1 : stB (ltZ n f) p = mtB (ltZ n f) (behZ (ltZ n f p)) (lnZ (behZ (ltZ n f p))) 0 (p + 1) := if_neg e
        have e2 : stP (ltZ n f) p = mtP (ltZ n f) (behZ (ltZ n f p)) (lnZ (behZ (ltZ n f p))) 0 (p + 1) := if_neg e
        have w := wrong42 N hN F T (L3_firstWrong_11 N k) hr N 0 (p + 1) (by omega) (by omega) (by omega)
        rw [show lnZ (behZ (ltZ n f p)) - 0 = lnZ (behZ (ltZ n f p)) from rfl, ← e1, ← e2, show ((0 : Nat) : Int) = 0 from rfl, show ((p + 1 : Nat) : Int) = (p : Int) + 1 by omega] at w
        rw [if_neg (show ¬ (lnZ (behZ (ltZ n f p)) : Int) = 0 by have := fun z => e (h0.mp z); omega), Option.bind_some, if_pos (by decide), if_pos rfl, w]
        have hs := stP_in N (ltZ n f) p
        by_cases d : stB (ltZ n f) p = true
        · rw [if_pos d, if_pos d]
          exact ih _ (by omega) (by have := (hs.2.2 d).1; omega)
        · rw [if_neg d, if_neg d]
