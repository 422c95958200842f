theorem relW_congr {μ ν : mm} (W : relW μ) (h : ∀ a, a ≠ 43 → a ≠ 2 → ν a = μ a) : relW ν := by
  obtain ⟨t1, t2, t3⟩ := W
  have e0 := h 0 (by decide) (by decide)
  have e6 := h 6 (by decide) (by decide)
  have e9 := h 9 (by decide) (by decide)
  have e46 := h 46 (by decide) (by decide)
  refine ⟨by rw [e9, e0]; exact t1, by rw [e0]; exact t2, fun j hj => ?_⟩
  rw [e0] at hj
  rw [e46, e6]
  exact t3 j hj
theorem trial_set {ξ : mm} {c v : Nat} {x : Int} : mu (tkP 43 c ξ) 43 v x = putC ξ 43 (fu (trialQ ξ c (ξ c 2)) v x) := by
  rw [tkP_putC]
  funext a b
  unfold mu putC fu
  by_cases ha : a = 43
  · subst ha
    by_cases hb : b = v
    · subst hb
      rw [if_pos ⟨rfl, rfl⟩, if_pos rfl, if_pos rfl]
    · rw [if_neg (fun z => hb z.2), if_pos rfl, if_pos rfl, if_neg hb]
  · rw [if_neg (fun z => ha z.1), if_neg ha, if_neg ha]
theorem what_loop (N : Nat) (hN : 200 ≤ N) {μ : mm} (W : relW μ) (ok : okR μ 1) (hd : μ 1 1 ≤ 999) {p : Nat} (hp : (p : Int) < μ 1 0) (h6 : at6 μ 1 p (μ (10 + 2 + p))) (v mo : Nat) (hv : (v = 0 ∧ mo = 6) ∨ (v = 1 ∧ mo = 10)) : ∀ (k i : Nat) (b : Int) (ξ : mm), i ≤ mo → mo < i + k → inR b → (∀ a, a ≠ 43 → ξ a = μ a) →
    ∃ (r : Int) (ξ' : mm), L4_whatIs_47 N k (p : Int) (v : Int) b (mo : Int) (i : Int) ξ = some (r, ξ') ∧ (∀ a, a ≠ 43 → ξ' a = μ a) ∧
      ∀ (μ' ν : mm), (∀ a, a ≠ 43 → μ' a = μ a) → (∀ a, a ≠ 2 → ν a = μ' a) → ∃ ν', L5_whatIs_35 N k (p : Int) (v : Int) b (i : Int) ν = some (r, ν') ∧ ∀ a, a ≠ 2 → ν' a = μ' a := by
  have hm := ok.1
  have hp8 : p < 8 := by omega
  have hq : okP (μ (10 + 2 + p)) := okR_at ok hp h6
  have g5 : ∀ (k i : Nat) (b : Int) (ν : mm), L5_whatIs_35 N (k + 1) (p : Int) (v : Int) b (i : Int) ν = J5_whatIs_48 N (L5_whatIs_35 N k) (p : Int) (v : Int) b (i : Int) (mo : Int) (i : Int) ν := by
    intro k i b ν
    rw [L5_whatIs_35, if_pos (show inR (v : Int) by omega)]
    rcases hv with ⟨rfl, rfl⟩ | ⟨rfl, rfl⟩
    · rw [if_pos (by decide)]
      rfl
    · rw [if_neg (by decide)]
      rfl
  intro k
  induction k with
  | zero => intro i b ξ h1 h2; omega
  | succ k ih =>
    intro i b ξ h1 h2 hb hf
    by_cases c : (mo : Int) ≤ (i : Int)
    · refine ⟨b, ξ, ?_, hf, fun μ' ν hμ hν => ⟨ν, ?_, hν⟩⟩
      · rw [L4_whatIs_47, if_pos (show inR (i : Int) ∧ inR (mo : Int) by omega), if_pos c]
      · rw [g5]
        simp only [J5_whatIs_48]
        rw [if_pos (show inR (i : Int) ∧ inR (mo : Int) by omega), if_pos c]
    · have ec := hf (10 + 2 + p) (by omega)
      have hq0 := hq.1
      have okF : okP (fu (μ (10 + 2 + p)) v (i : Int)) := by
        rcases hv with ⟨rfl, rfl⟩ | ⟨rfl, rfl⟩
        · exact ⟨by show 0 ≤ (i : Int) ∧ (i : Int) ≤ 5; omega, hq.2.1, hq.2.2.1, hq.2.2.2.1, hq.2.2.2.2.1, hq.2.2.2.2.2⟩
        · exact ⟨hq.1, by show 0 ≤ (i : Int) ∧ (i : Int) ≤ 9; omega, hq.2.2.1, hq.2.2.2.1, hq.2.2.2.2.1, hq.2.2.2.2.2⟩
      have hT : ∀ j, j < 6 → fu (trialQ ξ (10 + 2 + p) (ξ (10 + 2 + p) 2)) v (i : Int) j = fu (μ (10 + 2 + p)) v (i : Int) j := by
        intro j hj
        unfold fu
        by_cases u : j = v
        · rw [if_pos u, if_pos u]
        · rw [if_neg u, if_neg u, trialQ_p j hj, ec]
      have okT : okP (fu (trialQ ξ (10 + 2 + p) (ξ (10 + 2 + p) 2)) v (i : Int)) := okP_congr okF hT
      have Wξ : relW ξ := relW_congr W (fun a h _ => hf a h)
      have W0 := W.2.1
      have e0 : ξ 0 9 = μ 0 9 := by rw [hf 0 (by decide)]
      have e6 : ξ 6 = μ 6 := hf 6 (by decide)
      obtain ⟨r, T, e, hr, iff⟩ := rowIs4 N Wξ okT hT N 0 (by rw [e0]; omega) (by rw [e0]; omega)
      rw [e0, e6] at iff
      rw [show ((0 : Nat) : Int) = 0 from rfl] at e
      have fT : ∀ a, a ≠ 43 → putC ξ 43 T a = μ a := fun a h => (putC_row h).trans (hf a h)
      have eR : M4_rowIsOfTrial N (putC ξ 43 (fu (trialQ ξ (10 + 2 + p) (ξ (10 + 2 + p) 2)) v (i : Int))) = some (r, putC ξ 43 T) := e
      have zi := zor_in b (1 * 2 ^ i)
      have nb : inR (zor b (if r = 0 then 0 else 1 * 2 ^ i)) := zor_in _ _
      obtain ⟨r2, ξ2, e2, f2, G⟩ := ih (i + 1) (zor b (if r = 0 then 0 else 1 * 2 ^ i)) (putC ξ 43 T) (by omega) (by omega) nb fT
      refine ⟨r2, ξ2, ?_, f2, fun μ' ν hμ hν => ?_⟩
      · rw [L4_whatIs_47, if_pos (show inR (i : Int) ∧ inR (mo : Int) by omega), if_neg c, M1_at_eq N 10 p hp8, Option.bind_some, if_pos (kdo (Or.inl rfl) hp8), M2_takeFrom_eq N (by omega), Option.bind_some, if_pos (show inR (v : Int) by omega)]
        have fin : J4_whatIs_94 N (L4_whatIs_47 N k) (p : Int) (v : Int) b (mo : Int) (i : Int) (mu (tkP 43 (10 + 2 + p) ξ) 43 v (i : Int)) = some (r2, ξ2) := by
          rw [trial_set]
          simp only [J4_whatIs_94, J4_whatIs_110, bnd]
          rw [eR, Option.bind_some]
          dsimp only
          rw [if_pos (show inR r by omega), if_pos (show 0 ≤ (i : Int) ∧ (i : Int) < 32 by omega)]
          by_cases d : r = 0
          · rw [if_pos d, zor_0 hb] at e2
            rw [if_pos d]
            exact e2
          · rw [if_neg d] at e2
            rw [if_neg d]
            exact e2
        simp only [bnd]
        rcases hv with ⟨rfl, rfl⟩ | ⟨rfl, rfl⟩
        · rw [if_pos (by decide)]
          exact fin
        · rw [if_neg (by decide)]
          exact fin
      · have m1 : μ' 1 = μ 1 := hμ 1 (by decide)
        have n1 : ν 1 = μ 1 := (hν 1 (by decide)).trans m1
        have okc : okR (cp 1 2 ν) 2 := cp_ok (okR_congr ok n1)
        have c6 : at6 (cp 1 2 ν) 2 p (μ (10 + 2 + p)) := cp_at hp8 (by intro j hj; rw [n1]; exact h6 j hj)
        have W' : relW μ' := relW_congr W (fun a h _ => hμ a h)
        have m0 : μ' 0 9 = μ 0 9 := by rw [hμ 0 (by decide)]
        have m6 : μ' 6 = μ 6 := hμ 6 (by decide)
        have ep : mu (cp 1 2 ν) 2 (((4 + (6 * (p : Int))) + (v : Int))).toNat (i : Int) = putP (cp 1 2 ν) 2 p (fu (μ (10 + 2 + p)) v (i : Int)) := by
          rw [← putP_mu (show v < 6 by omega), putP_of c6, show ((4 + (6 * (p : Int))) + (v : Int)).toNat = 4 + 6 * p + v by omega]
        obtain ⟨y, ν1, e5, hy, iff5, f5⟩ := rowIs5 N hN (L5_whatIs_35 N k) W' hp8 okF (v : Int) b i (by omega) N 0 1 (putP (cp 1 2 ν) 2 p (fu (μ (10 + 2 + p)) v (i : Int))) (by rw [m0]; omega) (by rw [m0]; omega) (Or.inr rfl) (fun a h => by rw [putP_row h, cp_row h, hν a h]) (okR_putP okc okF) (by rw [putP_lo (by decide), cp_to (by decide), n1]; exact hp) (by rw [putP_lo (by decide), cp_to (by decide), n1]; omega) putP_at
        rw [m0, m6] at iff5
        have yr : y = r := by
          have : y = 1 ↔ r = 1 := iff5.trans ⟨fun z => iff.mpr z.2, fun z => ⟨rfl, iff.mp z⟩⟩
          rcases hy with rfl | rfl
          · rcases hr with rfl | rfl
            · rfl
            · exact this.mpr rfl
          · exact (this.mp rfl).symm
        subst yr
        obtain ⟨ν', e7, f7⟩ := G μ' ν1 hμ f5
        refine ⟨ν', ?_, f7⟩
        rw [g5]
        simp only [J5_whatIs_48, bnd]
        rw [if_pos (show inR (i : Int) ∧ inR (mo : Int) by omega), if_neg c, M5_copies_eq N 1 2 (by omega) (by decide), Option.bind_some, if_pos (show 0 ≤ ((4 + (6 * (p : Int))) + (v : Int)) ∧ ((4 + (6 * (p : Int))) + (v : Int)) < 52 by omega), ep]
        exact e5.trans e7
theorem op_whatIs (N : Nat) (hN : 200 ≤ N) {μ : mm} (R : Rel μ) {p w : Int} (hp : inR p) (hw : inR w) : Op (M4_whatIs N p w) (M5_whatIs N p w) μ := by
  obtain ⟨⟨a1, a2, a3⟩, -, -, W, -⟩ := id R
  have hm := a2.1
  have hu := unkZ_in μ p
  have ht := othZ_in w 1
  by_cases k : unkZ μ p = 0
  · have kk := unkZ_0 k
    obtain ⟨i, rfl⟩ := Int.eq_ofNat_of_zero_le kk.1
    by_cases t : othZ w 1 = 0
    · have tt := othZ_0 t
      obtain ⟨v, rfl⟩ := Int.eq_ofNat_of_zero_le tt.1
      obtain ⟨mo, hmo⟩ : ∃ mo : Nat, (v = 0 ∧ mo = 6) ∨ (v = 1 ∧ mo = 10) := by
        by_cases u : v = 0
        · exact ⟨6, Or.inl ⟨u, rfl⟩⟩
        · exact ⟨10, Or.inr ⟨by omega, rfl⟩⟩
      obtain ⟨r, ξ', e4, f4, G⟩ := what_loop N hN W a2 a3 kk.2 (a1.2.2.2.2 i kk.2) v mo hmo N 0 0 μ (by omega) (by omega) (by decide) (fun _ _ => rfl)
      obtain ⟨ν', e5, f5⟩ := G ξ' ξ' f4 (fun _ _ => rfl)
      rw [show ((0 : Nat) : Int) = 0 from rfl] at e4 e5
      have r1 : ξ' 1 = μ 1 := f4 1 (by decide)
      refine ⟨r, ξ', ν', ?_, ?_, Rel_m R (fun a h43 h2 _ => (f5 a h2).trans (f4 a h43))⟩
      · simp only [M4_whatIs, J4_whatIs_42]
        rw [M4_unknown_eq N hp a1 a2, Option.bind_some, M4_other_eq N hw (by decide), Option.bind_some, M4_firstOf_eq N hu ht, Option.bind_some, fst0 k t, if_pos (by decide), if_pos rfl, if_pos hw, len65, Option.bind_some]
        rcases hmo with ⟨rfl, rfl⟩ | ⟨rfl, rfl⟩
        · rw [if_pos (by decide)]
          exact e4
        · rw [if_neg (by decide)]
          exact e4
      · simp only [M5_whatIs]
        rw [M5_isOne_eq N hp (okR_congr a2 r1), Option.bind_some, r1, if_pos kk, if_pos (by decide), if_neg (by decide), M5_isIn_eq N hw (by decide) (by decide), Option.bind_some, if_pos tt, if_pos (by decide), if_neg (by decide)]
        exact e5
    · obtain ⟨t1, t2⟩ := oth_no t
      refine Op_ref N R (c := -2) (by decide) ?_ (fun ν hν => ?_)
      · simp only [M4_whatIs]
        rw [M4_unknown_eq N hp a1 a2, Option.bind_some, M4_other_eq N hw (by decide), Option.bind_some, M4_firstOf_eq N hu ht, Option.bind_some, fst2 k t, t1, if_pos (by decide), if_neg (by decide), rf4 N (by decide)]
      · have r1 : ν 1 = μ 1 := by rw [hν]; exact r4_c (by decide)
        simp only [M5_whatIs]
        rw [M5_isOne_eq N hp (okR_congr a2 r1), Option.bind_some, r1, if_pos kk, if_pos (by decide), if_neg (by decide), M5_isIn_eq N hw (by decide) (by decide), Option.bind_some, if_neg t2, if_pos (by decide), if_pos rfl, rf5 N (by decide)]
  · obtain ⟨k1, k2⟩ := unkZ_no k
    refine Op_ref N R (c := -1) (by decide) ?_ (fun ν hν => ?_)
    · simp only [M4_whatIs]
      rw [M4_unknown_eq N hp a1 a2, Option.bind_some, M4_other_eq N hw (by decide), Option.bind_some, M4_firstOf_eq N hu ht, Option.bind_some, fst1 k, k1, if_pos (by decide), if_neg (by decide), rf4 N (by decide)]
    · have r1 : ν 1 = μ 1 := by rw [hν]; exact r4_c (by decide)
      simp only [M5_whatIs]
      rw [M5_isOne_eq N hp (okR_congr a2 r1), Option.bind_some, r1, if_neg k2, if_pos (by decide), if_pos rfl, rf5 N (by decide)]
