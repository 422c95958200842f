-- X5_letter
theorem iX5_letter_1 : ∀ w ∈ wsX50, w ∈ wsX5_letter := by decide +kernel
section
variable {p : Program} {l : Launch} {e : Env} {s : State} {m : MethodId} {args : Array Value} {below : List Frame} {meth : Method} {c : Code} {D : va_G} {cy : ClassId × ClassId} {ad : Nat → Nat} {A : Nat → Prop} {res : (Int × mm)}
theorem CJ5_letter_27 (X : zX p s m args meth c cX5_letter RX5 wsX5_letter 2 D cy ad (some .int) A) (N : Nat) : ∀ (μ : mm), J5_letter_27 N μ = some res → ∀ (H : Heap) (locs : List Loc) (ls : Array Slot), zW D cy ad A s.heap μ H locs → lv_has ls 2 [(0, .ref (ad 0))] → W p l e (rmD 1) s m args below meth c H locs 0 0 (MQ below (zQi D cy ad A res.1 res.2) args s 0 0 A) (F0 m 27 ls []) := by
  intro μ h H locs ls hW hl
  rw [J5_letter_27] at h
  refine z_aload_n (pc := 27) X.1 hl 0 rfl rfl dX5_letter_27 ?_
  refine z_bipush (pc := 28) X.1 dX5_letter_28 (by decide) ?_
  obtain ⟨q3, eq3, h⟩ := z_bind h
  refine z_callV1I (pc := 30) (n := 1) (As := [.int (iO (-6))]) (rest := []) X hW hl rfl (C5_no l N (-6) μ eq3) gX5_letter_X5_no rfl (by decide +kernel) rfl (by decide) rfl (Nat.le_of_ble_eq_true rfl) dX5_letter_30 (fun H locs hW => ?_)
  exact z_iret (pc := 33) X hW (z_p1 h) (z_p2 h) dX5_letter_33
end
theorem C5_letter (l : Launch) {D : va_G} {cy : ClassId × ClassId} {ad : Nat → Nat} (N : Nat) (a0 : Int) (μ : mm) {res : (Int × mm)} (h : M5_letter N a0 μ = some res) : zI l yX5_letter wsX5_letter 1 D cy ad [.ref (ad 0), .int (iO a0)] μ res.1 res.2 := by
  refine zI.of RX5 rfl (by decide) rfl (Nat.le_of_ble_eq_true rfl) ?_
  intro p e s m args below meth c A X hW ls hl
  have hl : lv_has ls 2 [(0, .ref (ad 0)), (1, .int (iO a0))] := hl
  unfold M5_letter at h
  refine z_iload_n (pc := 0) X.1 hl 1 rfl rfl dX5_letter_0 ?_
  obtain ⟨g1, h⟩ := z_guard h
  refine z_if_ge (pc := 1) (tgt := 11) X.1 dX5_letter_1 (by decide) g1 h (fun c11 h => ?_) (fun c11 h => ?_)
  · refine z_iload_n (pc := 11) X.1 hl 1 rfl rfl dX5_letter_11 ?_
    refine z_sipush (pc := 12) X.1 dX5_letter_12 (by decide) ?_
    obtain ⟨g2, h⟩ := z_guard h
    refine z_icmp_gt (pc := 15) (tgt := 27) X.1 dX5_letter_15 (by decide) ⟨g2, (by decide)⟩ h (fun c9 h => ?_) (fun c9 h => ?_)
    · exact CJ5_letter_27 X N  μ h _ _ ls hW (lv_sub hl [0] rfl)
    · refine z_aload_n (pc := 18) X.1 hl 0 rfl rfl dX5_letter_18 ?_
      refine z_get1 (pc := 19) X.1 hW rfl iX5_letter_1 8 (by decide) rfl (by decide +kernel) dX5_letter_19 ?_
      refine z_bipush (pc := 22) X.1 dX5_letter_22 (by decide) ?_
      obtain ⟨g4, h⟩ := z_guard h
      refine z_icmp_ne (pc := 24) (tgt := 34) X.1 dX5_letter_24 (by decide) ⟨g4, (by decide)⟩ h (fun c8 h => ?_) (fun c8 h => ?_)
      · refine z_aload_n (pc := 34) X.1 hl 0 rfl rfl dX5_letter_34 ?_
        refine z_get1 (pc := 35) X.1 hW rfl iX5_letter_1 5 (by decide) rfl (by decide +kernel) dX5_letter_35 ?_
        refine z_aload_n (pc := 38) X.1 hl 0 rfl rfl dX5_letter_38 ?_
        refine z_get1 (pc := 39) X.1 hW rfl iX5_letter_1 8 (by decide) rfl (by decide +kernel) dX5_letter_39 ?_
        refine z_iload_n (pc := 42) X.1 hl 1 rfl rfl dX5_letter_42 ?_
        obtain ⟨g5, h⟩ := z_guard h
        obtain ⟨μ6, eμ6, h⟩ := z_bnd h
        refine z_iast (pc := 43) X.1 hW rfl ⟨g5.1, g5.2⟩ dX5_letter_43 (fun H locs hW => ?_)
        replace hW : zW D cy ad A s.heap μ6 H locs := by rw [eμ6]; exact hW
        refine z_aload_n (pc := 44) X.1 hl 0 rfl rfl dX5_letter_44 ?_
        refine z_dup (pc := 45) X.1 dX5_letter_45 rfl ?_
        refine z_get1 (pc := 46) X.1 hW rfl iX5_letter_1 8 (by decide) rfl (by decide +kernel) dX5_letter_46 ?_
        refine z_iconst (pc := 49) X.1 dX5_letter_49 ?_
        refine z_iadd (pc := 50) X.1 dX5_letter_50 ?_
        obtain ⟨μ7, eμ7, h⟩ := z_bnd h
        refine z_put1_8 (pc := 51) X.1 hW rfl iX5_letter_1 (by decide +kernel) dX5_letter_51 (fun H locs hW => ?_)
        rw [← eμ7] at hW
        refine z_aload_n (pc := 54) X.1 hl 0 rfl rfl dX5_letter_54 ?_
        refine z_get1 (pc := 55) X.1 hW rfl iX5_letter_1 8 (by decide) rfl (by decide +kernel) dX5_letter_55 ?_
        exact z_iret (pc := 58) X hW (z_p1 h) (z_p2 h) dX5_letter_58
      · exact CJ5_letter_27 X N  μ h _ _ ls hW (lv_sub hl [0] rfl)
  · refine z_aload_n (pc := 4) X.1 hl 0 rfl rfl dX5_letter_4 ?_
    refine z_bipush (pc := 5) X.1 dX5_letter_5 (by decide) ?_
    obtain ⟨q10, eq10, h⟩ := z_bind h
    refine z_callV1I (pc := 7) (n := 1) (As := [.int (iO (-4))]) (rest := []) X hW hl rfl (C5_no l N (-4) μ eq10) gX5_letter_X5_no rfl (by decide +kernel) rfl (by decide) rfl (Nat.le_of_ble_eq_true rfl) dX5_letter_7 (fun H locs hW => ?_)
    exact z_iret (pc := 10) X hW (z_p1 h) (z_p2 h) dX5_letter_10
-- X5_here
theorem iX5_here_1 : ∀ w ∈ wsX50, w ∈ wsX5_here := by decide +kernel
theorem C5_here (l : Launch) {D : va_G} {cy : ClassId × ClassId} {ad : Nat → Nat} (N : Nat)  (μ0 : mm) {res : Int} (h : M5_here N μ0 = some res) : zI l yX5_here wsX5_here 0 D cy ad [.ref (ad 0)] μ0 res μ0 := by
  refine zI.of RX5 rfl (by decide) rfl (Nat.le_of_ble_eq_true rfl) ?_
  intro p e s m args below meth c A X hW ls hl
  have hl : lv_has ls 1 [(0, .ref (ad 0))] := hl
  unfold M5_here at h
  refine z_aload_n (pc := 0) X.1 hl 0 rfl rfl dX5_here_0 ?_
  refine z_get1 (pc := 1) X.1 hW rfl iX5_here_1 10 (by decide) rfl (by decide +kernel) dX5_here_1 ?_
  refine z_aload_n (pc := 4) X.1 hl 0 rfl rfl dX5_here_4 ?_
  refine z_get1 (pc := 5) X.1 hW rfl iX5_here_1 8 (by decide) rfl (by decide +kernel) dX5_here_5 ?_
  obtain ⟨g1, h⟩ := z_guard h
  refine z_icmp_ge (pc := 8) (tgt := 23) X.1 dX5_here_8 (by decide) ⟨g1.1, g1.2⟩ h (fun c3 h => ?_) (fun c3 h => ?_)
  · refine z_iconst (pc := 23) X.1 dX5_here_23 ?_
    exact z_iret (pc := 24) X hW (Option.some.inj h) rfl dX5_here_24
  · refine z_aload_n (pc := 11) X.1 hl 0 rfl rfl dX5_here_11 ?_
    refine z_get1 (pc := 12) X.1 hW rfl iX5_here_1 5 (by decide) rfl (by decide +kernel) dX5_here_12 ?_
    refine z_aload_n (pc := 15) X.1 hl 0 rfl rfl dX5_here_15 ?_
    refine z_get1 (pc := 16) X.1 hW rfl iX5_here_1 10 (by decide) rfl (by decide +kernel) dX5_here_16 ?_
    obtain ⟨g2, h⟩ := z_guard h
    refine z_iald (pc := 19) X.1 hW rfl ⟨g2.1, g2.2⟩ dX5_here_19 ?_
    refine z_goto (pc := 20) (tgt := 24) X.1 dX5_here_20 (by decide) ?_
    exact z_iret (pc := 24) X hW (Option.some.inj h) rfl dX5_here_24
-- X5_readsNumber
theorem iX5_readsNumber_1 : ∀ w ∈ wsX50, w ∈ wsX5_readsNumber := by decide +kernel
section
variable {p : Program} {l : Launch} {e : Env} {s : State} {m : MethodId} {args : Array Value} {below : List Frame} {meth : Method} {c : Code} {D : va_G} {cy : ClassId × ClassId} {ad : Nat → Nat} {A : Nat → Prop} {res : (Int × mm)}
theorem CL5_readsNumber_9 (X : zX p s m args meth c cX5_readsNumber RX5 wsX5_readsNumber 4 D cy ad (some .boolean) A) (N : Nat) : ∀ (k : Nat) (x1 : Int) (x2 : Int) (x3 : Int) (μ : mm), L5_readsNumber_9 N k x1 x2 x3 μ = some res → ∀ (H : Heap) (locs : List Loc) (ls : Array Slot), zW D cy ad A s.heap μ H locs → lv_has ls 4 [(0, .ref (ad 0)), (1, .int (iO x1)), (2, .int (iO x2)), (3, .int (iO x3))] → W p l e (rmD 1) s m args below meth c H locs 0 0 (MQ below (zQi D cy ad A res.1 res.2) args s 0 0 A) (F0 m 9 ls []) := by
  intro k
  induction k with
  | zero =>
    intro x1 x2 x3 μ h H locs ls hW hl
    exact absurd h (by rw [L5_readsNumber_9]; exact fun z => by cases z)
  | succ k ih =>
    intro x1 x2 x3 μ h H locs ls hW hl
    rw [L5_readsNumber_9] at h
    refine z_iload_n (pc := 9) X.1 hl 3 rfl rfl dX5_readsNumber_9 ?_
    refine z_iload_n (pc := 10) X.1 hl 2 rfl rfl dX5_readsNumber_10 ?_
    obtain ⟨g3, h⟩ := z_guard h
    refine z_icmp_ge (pc := 11) (tgt := 69) X.1 dX5_readsNumber_11 (by decide) ⟨g3.1, g3.2⟩ h (fun c13 h => ?_) (fun c13 h => ?_)
    · refine z_iconst (pc := 69) X.1 dX5_readsNumber_69 ?_
      exact z_zret (pc := 70) X hW (by decide) (z_p1 h) (z_p2 h) dX5_readsNumber_70
    · refine z_aload_n (pc := 14) X.1 hl 0 rfl rfl dX5_readsNumber_14 ?_
      obtain ⟨q4, eq4, h⟩ := z_bind h
      refine z_callV1I (pc := 15) (n := 0) (As := []) (rest := []) X hW hl rfl (C5_here l N  μ eq4) gX5_readsNumber_X5_here rfl (by decide +kernel) rfl (by decide) rfl (Nat.le_of_ble_eq_true rfl) dX5_readsNumber_15 (fun H locs hW => ?_)
      refine z_bipush (pc := 18) X.1 dX5_readsNumber_18 (by decide) ?_
      refine z_bipush (pc := 20) X.1 dX5_readsNumber_20 (by decide) ?_
      obtain ⟨q5, eq5, h⟩ := z_bind h
      refine z_callSI (pc := 22) (n := 3) (As := [.int (iO q4), .int (iO 48), .int (iO 57)]) (rest := []) X hW hl (C5_isIn l N q4 48 57 μ eq5) gX5_readsNumber_X5_isIn rfl (by decide +kernel) rfl (by decide) rfl (Nat.le_of_ble_eq_true rfl) dX5_readsNumber_22 (fun H locs hW => ?_)
      obtain ⟨g6, h⟩ := z_guard h
      refine z_if_ne (pc := 25) (tgt := 30) X.1 dX5_readsNumber_25 (by decide) g6 h (fun c12 h => ?_) (fun c12 h => ?_)
      · refine z_aload_n (pc := 30) X.1 hl 0 rfl rfl dX5_readsNumber_30 ?_
        refine z_get1 (pc := 31) X.1 hW rfl iX5_readsNumber_1 11 (by decide) rfl (by decide +kernel) dX5_readsNumber_31 ?_
        refine z_iload_n (pc := 34) X.1 hl 1 rfl rfl dX5_readsNumber_34 ?_
        refine z_bipush (pc := 35) X.1 dX5_readsNumber_35 (by decide) ?_
        refine z_aload_n (pc := 37) X.1 hl 0 rfl rfl dX5_readsNumber_37 ?_
        refine z_get1 (pc := 38) X.1 hW rfl iX5_readsNumber_1 11 (by decide) rfl (by decide +kernel) dX5_readsNumber_38 ?_
        refine z_iload_n (pc := 41) X.1 hl 1 rfl rfl dX5_readsNumber_41 ?_
        obtain ⟨g7, h⟩ := z_guard h
        refine z_iald (pc := 42) X.1 hW rfl ⟨g7.1, g7.2⟩ dX5_readsNumber_42 ?_
        refine z_imul (pc := 43) X.1 dX5_readsNumber_43 ?_
        refine z_aload_n (pc := 44) X.1 hl 0 rfl rfl dX5_readsNumber_44 ?_
        obtain ⟨q8, eq8, h⟩ := z_bind h
        refine z_callV1I (pc := 45) (n := 0) (As := []) (rest := [.int (iO (10 * (μ 8 (x1).toNat))), .int (iO x1), .ref (ad 8)]) X hW hl rfl (C5_here l N  μ eq8) gX5_readsNumber_X5_here rfl (by decide +kernel) rfl (by decide) rfl (Nat.le_of_ble_eq_true rfl) dX5_readsNumber_45 (fun H locs hW => ?_)
        refine z_iadd (pc := 48) X.1 dX5_readsNumber_48 ?_
        refine z_bipush (pc := 49) X.1 dX5_readsNumber_49 (by decide) ?_
        refine z_isub (pc := 51) X.1 dX5_readsNumber_51 ?_
        obtain ⟨g9, h⟩ := z_guard h
        obtain ⟨μ10, eμ10, h⟩ := z_bnd h
        refine z_iast (pc := 52) X.1 hW rfl ⟨g9.1, g9.2⟩ dX5_readsNumber_52 (fun H locs hW => ?_)
        replace hW : zW D cy ad A s.heap μ10 H locs := by rw [eμ10]; exact hW
        refine z_aload_n (pc := 53) X.1 hl 0 rfl rfl dX5_readsNumber_53 ?_
        refine z_dup (pc := 54) X.1 dX5_readsNumber_54 rfl ?_
        refine z_get1 (pc := 55) X.1 hW rfl iX5_readsNumber_1 10 (by decide) rfl (by decide +kernel) dX5_readsNumber_55 ?_
        refine z_iconst (pc := 58) X.1 dX5_readsNumber_58 ?_
        refine z_iadd (pc := 59) X.1 dX5_readsNumber_59 ?_
        obtain ⟨μ11, eμ11, h⟩ := z_bnd h
        refine z_put1_10 (pc := 60) X.1 hW rfl iX5_readsNumber_1 (by decide +kernel) dX5_readsNumber_60 (fun H locs hW => ?_)
        rw [← eμ11] at hW
        refine z_iinc (pc := 63) (i := 3) X.1 [(3, .int (iO (x3 + 1))), (0, .ref (ad 0)), (1, .int (iO x1)), (2, .int (iO x2))] hl 3 rfl rfl (by decide) rfl dX5_readsNumber_63 (fun ls hl => ?_)
        refine z_goto (pc := 66) (tgt := 9) X.1 dX5_readsNumber_66 (by decide) ?_
        exact ih x1 x2 (x3 + 1) μ11 h _ _ ls hW (lv_sub hl [1, 2, 3, 0] rfl)
      · refine z_iconst (pc := 28) X.1 dX5_readsNumber_28 ?_
        exact z_zret (pc := 29) X hW (by decide) (z_p1 h) (z_p2 h) dX5_readsNumber_29
end
theorem C5_readsNumber (l : Launch) {D : va_G} {cy : ClassId × ClassId} {ad : Nat → Nat} (N : Nat) (a0 : Int) (a1 : Int) (μ : mm) {res : (Int × mm)} (h : M5_readsNumber N a0 a1 μ = some res) : zI l yX5_readsNumber wsX5_readsNumber 1 D cy ad [.ref (ad 0), .int (iO a0), .int (iO a1)] μ res.1 res.2 := by
  refine zI.of RX5 rfl (by decide) rfl (Nat.le_of_ble_eq_true rfl) ?_
  intro p e s m args below meth c A X hW ls hl
  have hl : lv_has ls 4 [(0, .ref (ad 0)), (1, .int (iO a0)), (2, .int (iO a1))] := hl
  unfold M5_readsNumber at h
  refine z_aload_n (pc := 0) X.1 hl 0 rfl rfl dX5_readsNumber_0 ?_
  refine z_get1 (pc := 1) X.1 hW rfl iX5_readsNumber_1 11 (by decide) rfl (by decide +kernel) dX5_readsNumber_1 ?_
  refine z_iload_n (pc := 4) X.1 hl 1 rfl rfl dX5_readsNumber_4 ?_
  refine z_iconst (pc := 5) X.1 dX5_readsNumber_5 ?_
  obtain ⟨g1, h⟩ := z_guard h
  obtain ⟨μ2, eμ2, h⟩ := z_bnd h
  refine z_iast (pc := 6) X.1 hW rfl ⟨g1.1, g1.2⟩ dX5_readsNumber_6 (fun H locs hW => ?_)
  replace hW : zW D cy ad A s.heap μ2 H locs := by rw [eμ2]; exact hW
  refine z_iconst (pc := 7) X.1 dX5_readsNumber_7 ?_
  refine z_istore_n (pc := 8) (i := 3) X.1 [(3, .int (iO 0)), (0, .ref (ad 0)), (1, .int (iO a0)), (2, .int (iO a1))] hl rfl rfl (by decide) rfl dX5_readsNumber_8 (fun ls hl => ?_)
  exact CL5_readsNumber_9 X N N a0 a1 0 μ2 h _ _ ls hW (lv_sub hl [1, 2, 3, 0] rfl)
-- X5_kindBy
theorem C5_kindBy (l : Launch) {D : va_G} {cy : ClassId × ClassId} {ad : Nat → Nat} (N : Nat) (a0 : Int) (μ0 : mm) {res : Int} (h : M5_kindBy N a0 μ0 = some res) : zI l yX5_kindBy wsX5_kindBy 0 D cy ad [.int (iO a0)] μ0 res μ0 := by
  refine zI.of RX5 rfl (by decide) rfl (Nat.le_of_ble_eq_true rfl) ?_
  intro p e s m args below meth c A X hW ls hl
  have hl : lv_has ls 1 [(0, .int (iO a0))] := hl
  unfold M5_kindBy at h
  refine z_iload_n (pc := 0) X.1 hl 0 rfl rfl dX5_kindBy_0 ?_
  obtain ⟨g1, h⟩ := z_guard h
  by_cases c2 : a0 = 99
  · rw [if_pos c2] at h
    refine z_tin (pc := 1) (v := 99) (tgt := 88) X.1 dX5_kindBy_1 c2 (by decide) (by decide) rfl (by decide) ?_
    refine z_iconst (pc := 88) X.1 dX5_kindBy_88 ?_
    exact z_iret (pc := 89) X hW (Option.some.inj h) rfl dX5_kindBy_89
  · rw [if_neg c2] at h
    by_cases c3 : a0 = 100
    · rw [if_pos c3] at h
      refine z_tin (pc := 1) (v := 100) (tgt := 96) X.1 dX5_kindBy_1 c3 (by decide) (by decide) rfl (by decide) ?_
      refine z_iconst (pc := 96) X.1 dX5_kindBy_96 ?_
      exact z_iret (pc := 97) X hW (Option.some.inj h) rfl dX5_kindBy_97
    · rw [if_neg c3] at h
      by_cases c4 : a0 = 101
      · rw [if_pos c4] at h
        refine z_tin (pc := 1) (v := 101) (tgt := 100) X.1 dX5_kindBy_1 c4 (by decide) (by decide) rfl (by decide) ?_
        refine z_bipush (pc := 100) X.1 dX5_kindBy_100 (by decide) ?_
        exact z_iret (pc := 102) X hW (Option.some.inj h) rfl dX5_kindBy_102
      · rw [if_neg c4] at h
        by_cases c5 : a0 = 102
        · rw [if_pos c5] at h
          refine z_tin (pc := 1) (v := 102) (tgt := 100) X.1 dX5_kindBy_1 c5 (by decide) (by decide) rfl (by decide) ?_
          refine z_bipush (pc := 100) X.1 dX5_kindBy_100 (by decide) ?_
          exact z_iret (pc := 102) X hW (Option.some.inj h) rfl dX5_kindBy_102
        · rw [if_neg c5] at h
          by_cases c6 : a0 = 103
          · rw [if_pos c6] at h
            refine z_tin (pc := 1) (v := 103) (tgt := 98) X.1 dX5_kindBy_1 c6 (by decide) (by decide) rfl (by decide) ?_
            refine z_iconst (pc := 98) X.1 dX5_kindBy_98 ?_
            exact z_iret (pc := 99) X hW (Option.some.inj h) rfl dX5_kindBy_99
          · rw [if_neg c6] at h
            by_cases c7 : a0 = 104
            · rw [if_pos c7] at h
              refine z_tin (pc := 1) (v := 104) (tgt := 92) X.1 dX5_kindBy_1 c7 (by decide) (by decide) rfl (by decide) ?_
              refine z_iconst (pc := 92) X.1 dX5_kindBy_92 ?_
              exact z_iret (pc := 93) X hW (Option.some.inj h) rfl dX5_kindBy_93
            · rw [if_neg c7] at h
              by_cases c8 : a0 = 105
              · rw [if_pos c8] at h
                refine z_tin (pc := 1) (v := 105) (tgt := 100) X.1 dX5_kindBy_1 c8 (by decide) (by decide) rfl (by decide) ?_
                refine z_bipush (pc := 100) X.1 dX5_kindBy_100 (by decide) ?_
                exact z_iret (pc := 102) X hW (Option.some.inj h) rfl dX5_kindBy_102
              · rw [if_neg c8] at h
                by_cases c9 : a0 = 106
                · rw [if_pos c9] at h
                  refine z_tin (pc := 1) (v := 106) (tgt := 100) X.1 dX5_kindBy_1 c9 (by decide) (by decide) rfl (by decide) ?_
                  refine z_bipush (pc := 100) X.1 dX5_kindBy_100 (by decide) ?_
                  exact z_iret (pc := 102) X hW (Option.some.inj h) rfl dX5_kindBy_102
                · rw [if_neg c9] at h
                  by_cases c10 : a0 = 107
                  · rw [if_pos c10] at h
                    refine z_tin (pc := 1) (v := 107) (tgt := 100) X.1 dX5_kindBy_1 c10 (by decide) (by decide) rfl (by decide) ?_
                    refine z_bipush (pc := 100) X.1 dX5_kindBy_100 (by decide) ?_
                    exact z_iret (pc := 102) X hW (Option.some.inj h) rfl dX5_kindBy_102
                  · rw [if_neg c10] at h
                    by_cases c11 : a0 = 108
                    · rw [if_pos c11] at h
                      refine z_tin (pc := 1) (v := 108) (tgt := 100) X.1 dX5_kindBy_1 c11 (by decide) (by decide) rfl (by decide) ?_
                      refine z_bipush (pc := 100) X.1 dX5_kindBy_100 (by decide) ?_
                      exact z_iret (pc := 102) X hW (Option.some.inj h) rfl dX5_kindBy_102
                    · rw [if_neg c11] at h
                      by_cases c12 : a0 = 109
                      · rw [if_pos c12] at h
                        refine z_tin (pc := 1) (v := 109) (tgt := 90) X.1 dX5_kindBy_1 c12 (by decide) (by decide) rfl (by decide) ?_
                        refine z_iconst (pc := 90) X.1 dX5_kindBy_90 ?_
                        exact z_iret (pc := 91) X hW (Option.some.inj h) rfl dX5_kindBy_91
                      · rw [if_neg c12] at h
                        by_cases c13 : a0 = 110
                        · rw [if_pos c13] at h
                          refine z_tin (pc := 1) (v := 110) (tgt := 100) X.1 dX5_kindBy_1 c13 (by decide) (by decide) rfl (by decide) ?_
                          refine z_bipush (pc := 100) X.1 dX5_kindBy_100 (by decide) ?_
                          exact z_iret (pc := 102) X hW (Option.some.inj h) rfl dX5_kindBy_102
                        · rw [if_neg c13] at h
                          by_cases c14 : a0 = 111
                          · rw [if_pos c14] at h
                            refine z_tin (pc := 1) (v := 111) (tgt := 100) X.1 dX5_kindBy_1 c14 (by decide) (by decide) rfl (by decide) ?_
                            refine z_bipush (pc := 100) X.1 dX5_kindBy_100 (by decide) ?_
                            exact z_iret (pc := 102) X hW (Option.some.inj h) rfl dX5_kindBy_102
                          · rw [if_neg c14] at h
                            by_cases c15 : a0 = 112
                            · rw [if_pos c15] at h
                              refine z_tin (pc := 1) (v := 112) (tgt := 100) X.1 dX5_kindBy_1 c15 (by decide) (by decide) rfl (by decide) ?_
                              refine z_bipush (pc := 100) X.1 dX5_kindBy_100 (by decide) ?_
                              exact z_iret (pc := 102) X hW (Option.some.inj h) rfl dX5_kindBy_102
                            · rw [if_neg c15] at h
                              by_cases c16 : a0 = 113
                              · rw [if_pos c16] at h
                                refine z_tin (pc := 1) (v := 113) (tgt := 100) X.1 dX5_kindBy_1 c16 (by decide) (by decide) rfl (by decide) ?_
                                refine z_bipush (pc := 100) X.1 dX5_kindBy_100 (by decide) ?_
                                exact z_iret (pc := 102) X hW (Option.some.inj h) rfl dX5_kindBy_102
                              · rw [if_neg c16] at h
                                by_cases c17 : a0 = 114
                                · rw [if_pos c17] at h
                                  refine z_tin (pc := 1) (v := 114) (tgt := 100) X.1 dX5_kindBy_1 c17 (by decide) (by decide) rfl (by decide) ?_
                                  refine z_bipush (pc := 100) X.1 dX5_kindBy_100 (by decide) ?_
                                  exact z_iret (pc := 102) X hW (Option.some.inj h) rfl dX5_kindBy_102
                                · rw [if_neg c17] at h
                                  by_cases c18 : a0 = 115
                                  · rw [if_pos c18] at h
                                    refine z_tin (pc := 1) (v := 115) (tgt := 100) X.1 dX5_kindBy_1 c18 (by decide) (by decide) rfl (by decide) ?_
                                    refine z_bipush (pc := 100) X.1 dX5_kindBy_100 (by decide) ?_
                                    exact z_iret (pc := 102) X hW (Option.some.inj h) rfl dX5_kindBy_102
                                  · rw [if_neg c18] at h
                                    by_cases c19 : a0 = 116
                                    · rw [if_pos c19] at h
                                      refine z_tin (pc := 1) (v := 116) (tgt := 94) X.1 dX5_kindBy_1 c19 (by decide) (by decide) rfl (by decide) ?_
                                      refine z_iconst (pc := 94) X.1 dX5_kindBy_94 ?_
                                      exact z_iret (pc := 95) X hW (Option.some.inj h) rfl dX5_kindBy_95
                                    · rw [if_neg c19] at h
                                      refine z_tout (pc := 1) (tgt := 100) X.1 dX5_kindBy_1 g1 (by omega) (by decide) ?_
                                      refine z_bipush (pc := 100) X.1 dX5_kindBy_100 (by decide) ?_
                                      exact z_iret (pc := 102) X hW (Option.some.inj h) rfl dX5_kindBy_102
-- X5_readsKind
theorem iX5_readsKind_1 : ∀ w ∈ wsX50, w ∈ wsX5_readsKind := by decide +kernel
section
variable {p : Program} {l : Launch} {e : Env} {s : State} {m : MethodId} {args : Array Value} {below : List Frame} {meth : Method} {c : Code} {D : va_G} {cy : ClassId × ClassId} {ad : Nat → Nat} {A : Nat → Prop} {res : (Int × mm)}
theorem CJ5_readsKind_32 (X : zX p s m args meth c cX5_readsKind RX5 wsX5_readsKind 1 D cy ad (some .boolean) A) (N : Nat) : ∀ (y0 : Int) (y1 : Int) (μ : mm), J5_readsKind_32 N y0 y1 μ = some res → ∀ (H : Heap) (locs : List Loc) (ls : Array Slot), zW D cy ad A s.heap μ H locs → lv_has ls 1 [(0, .ref (ad 0))] → W p l e (rmD 1) s m args below meth c H locs 0 0 (MQ below (zQi D cy ad A res.1 res.2) args s 0 0 A) (F0 m 32 ls [.int (iO y0), .int (iO y1), .ref (ad 0)]) := by
  intro y0 y1 μ h H locs ls hW hl
  rw [J5_readsKind_32] at h
  refine z_iadd (pc := 32) X.1 dX5_readsKind_32 ?_
  obtain ⟨μ5, eμ5, h⟩ := z_bnd h
  refine z_put1_10 (pc := 33) X.1 hW rfl iX5_readsKind_1 (by decide +kernel) dX5_readsKind_33 (fun H locs hW => ?_)
  rw [← eμ5] at hW
  refine z_aload_n (pc := 36) X.1 hl 0 rfl rfl dX5_readsKind_36 ?_
  refine z_get1 (pc := 37) X.1 hW rfl iX5_readsKind_1 11 (by decide) rfl (by decide +kernel) dX5_readsKind_37 ?_
  refine z_iconst (pc := 40) X.1 dX5_readsKind_40 ?_
  refine z_iald (pc := 41) X.1 hW rfl ⟨(by decide), (by decide)⟩ dX5_readsKind_41 ?_
  obtain ⟨g6, h⟩ := z_guard h
  refine z_if_lt (pc := 42) (tgt := 49) X.1 dX5_readsKind_42 (by decide) g6 h (fun c7 h => ?_) (fun c7 h => ?_)
  · refine z_iconst (pc := 49) X.1 dX5_readsKind_49 ?_
    exact z_zret (pc := 50) X hW (by decide) (z_p1 h) (z_p2 h) dX5_readsKind_50
  · refine z_iconst (pc := 45) X.1 dX5_readsKind_45 ?_
    refine z_goto (pc := 46) (tgt := 50) X.1 dX5_readsKind_46 (by decide) ?_
    exact z_zret (pc := 50) X hW (by decide) (z_p1 h) (z_p2 h) dX5_readsKind_50
end
theorem C5_readsKind (l : Launch) {D : va_G} {cy : ClassId × ClassId} {ad : Nat → Nat} (N : Nat)  (μ : mm) {res : (Int × mm)} (h : M5_readsKind N μ = some res) : zI l yX5_readsKind wsX5_readsKind 1 D cy ad [.ref (ad 0)] μ res.1 res.2 := by
  refine zI.of RX5 rfl (by decide) rfl (Nat.le_of_ble_eq_true rfl) ?_
  intro p e s m args below meth c A X hW ls hl
  have hl : lv_has ls 1 [(0, .ref (ad 0))] := hl
  unfold M5_readsKind at h
  refine z_aload_n (pc := 0) X.1 hl 0 rfl rfl dX5_readsKind_0 ?_
  refine z_get1 (pc := 1) X.1 hW rfl iX5_readsKind_1 11 (by decide) rfl (by decide +kernel) dX5_readsKind_1 ?_
  refine z_iconst (pc := 4) X.1 dX5_readsKind_4 ?_
  refine z_aload_n (pc := 5) X.1 hl 0 rfl rfl dX5_readsKind_5 ?_
  obtain ⟨q1, eq1, h⟩ := z_bind h
  refine z_callV1I (pc := 6) (n := 0) (As := []) (rest := [.int (iO 0), .ref (ad 8)]) X hW hl rfl (C5_here l N  μ eq1) gX5_readsKind_X5_here rfl (by decide +kernel) rfl (by decide) rfl (Nat.le_of_ble_eq_true rfl) dX5_readsKind_6 (fun H locs hW => ?_)
  obtain ⟨q2, eq2, h⟩ := z_bind h
  refine z_callSI (pc := 9) (n := 1) (As := [.int (iO q1)]) (rest := [.int (iO 0), .ref (ad 8)]) X hW hl (C5_kindBy l N q1 μ eq2) gX5_readsKind_X5_kindBy rfl (by decide +kernel) rfl (by decide) rfl (Nat.le_of_ble_eq_true rfl) dX5_readsKind_9 (fun H locs hW => ?_)
  obtain ⟨μ3, eμ3, h⟩ := z_bnd h
  refine z_iast (pc := 12) X.1 hW rfl ⟨(by decide), (by decide)⟩ dX5_readsKind_12 (fun H locs hW => ?_)
  replace hW : zW D cy ad A s.heap μ3 H locs := by rw [eμ3]; exact hW
  refine z_aload_n (pc := 13) X.1 hl 0 rfl rfl dX5_readsKind_13 ?_
  refine z_dup (pc := 14) X.1 dX5_readsKind_14 rfl ?_
  refine z_get1 (pc := 15) X.1 hW rfl iX5_readsKind_1 10 (by decide) rfl (by decide +kernel) dX5_readsKind_15 ?_
  refine z_aload_n (pc := 18) X.1 hl 0 rfl rfl dX5_readsKind_18 ?_
  refine z_get1 (pc := 19) X.1 hW rfl iX5_readsKind_1 11 (by decide) rfl (by decide +kernel) dX5_readsKind_19 ?_
  refine z_iconst (pc := 22) X.1 dX5_readsKind_22 ?_
  refine z_iald (pc := 23) X.1 hW rfl ⟨(by decide), (by decide)⟩ dX5_readsKind_23 ?_
  obtain ⟨g4, h⟩ := z_guard h
  refine z_if_ge (pc := 24) (tgt := 31) X.1 dX5_readsKind_24 (by decide) g4 h (fun c8 h => ?_) (fun c8 h => ?_)
  · refine z_iconst (pc := 31) X.1 dX5_readsKind_31 ?_
    exact CJ5_readsKind_32 X N 1 (μ3 0 10) μ3 h _ _ ls hW (lv_sub hl [0] rfl)
  · refine z_iconst (pc := 27) X.1 dX5_readsKind_27 ?_
    refine z_goto (pc := 28) (tgt := 32) X.1 dX5_readsKind_28 (by decide) ?_
    exact CJ5_readsKind_32 X N 0 (μ3 0 10) μ3 h _ _ ls hW (lv_sub hl [0] rfl)
-- X5_readsStatement
theorem iX5_readsStatement_1 : ∀ w ∈ wsX50, w ∈ wsX5_readsStatement := by decide +kernel
section
variable {p : Program} {l : Launch} {e : Env} {s : State} {m : MethodId} {args : Array Value} {below : List Frame} {meth : Method} {c : Code} {D : va_G} {cy : ClassId × ClassId} {ad : Nat → Nat} {A : Nat → Prop} {res : (Int × mm)}
theorem CJ5_readsStatement_207 (X : zX p s m args meth c cX5_readsStatement RX5 wsX5_readsStatement 3 D cy ad (some .boolean) A) (N : Nat) : ∀ (x2 : Int) (μ : mm), J5_readsStatement_207 N x2 μ = some res → ∀ (H : Heap) (locs : List Loc) (ls : Array Slot), zW D cy ad A s.heap μ H locs → lv_has ls 3 [(0, .ref (ad 0)), (2, .int (iO x2))] → W p l e (rmD 2) s m args below meth c H locs 0 0 (MQ below (zQi D cy ad A res.1 res.2) args s 0 0 A) (F0 m 207 ls []) := by
  intro x2 μ h H locs ls hW hl
  rw [J5_readsStatement_207] at h
  refine z_iload_n (pc := 207) X.1 hl 1 rfl rfl dX5_readsStatement_207 ?_
  obtain ⟨g5, h⟩ := z_guard h
  refine z_if_eq (pc := 208) (tgt := 220) X.1 dX5_readsStatement_208 (by decide) g5 h (fun c10 h => ?_) (fun c10 h => ?_)
  · refine z_iconst (pc := 220) X.1 dX5_readsStatement_220 ?_
    exact z_zret (pc := 221) X hW (by decide) (z_p1 h) (z_p2 h) dX5_readsStatement_221
  · refine z_aload_n (pc := 211) X.1 hl 0 rfl rfl dX5_readsStatement_211 ?_
    obtain ⟨q6, eq6, h⟩ := z_bind h
    refine z_callV1I (pc := 212) (n := 0) (As := []) (rest := []) X hW hl rfl (C5_here l N  μ eq6) gX5_readsStatement_X5_here rfl (by decide +kernel) rfl (by decide) rfl (Nat.le_of_ble_eq_true rfl) dX5_readsStatement_212 (fun H locs hW => ?_)
    refine z_bipush (pc := 215) X.1 dX5_readsStatement_215 (by decide) ?_
    obtain ⟨g7, h⟩ := z_guard h
    refine z_icmp_eq (pc := 217) (tgt := 222) X.1 dX5_readsStatement_217 (by decide) ⟨g7, (by decide)⟩ h (fun c9 h => ?_) (fun c9 h => ?_)
    · refine z_aload_n (pc := 222) X.1 hl 0 rfl rfl dX5_readsStatement_222 ?_
      refine z_dup (pc := 223) X.1 dX5_readsStatement_223 rfl ?_
      refine z_get1 (pc := 224) X.1 hW rfl iX5_readsStatement_1 10 (by decide) rfl (by decide +kernel) dX5_readsStatement_224 ?_
      refine z_iconst (pc := 227) X.1 dX5_readsStatement_227 ?_
      refine z_iadd (pc := 228) X.1 dX5_readsStatement_228 ?_
      obtain ⟨μ8, eμ8, h⟩ := z_bnd h
      refine z_put1_10 (pc := 229) X.1 hW rfl iX5_readsStatement_1 (by decide +kernel) dX5_readsStatement_229 (fun H locs hW => ?_)
      rw [← eμ8] at hW
      refine z_iconst (pc := 232) X.1 dX5_readsStatement_232 ?_
      exact z_zret (pc := 233) X hW (by decide) (z_p1 h) (z_p2 h) dX5_readsStatement_233
    · refine z_iconst (pc := 220) X.1 dX5_readsStatement_220 ?_
      exact z_zret (pc := 221) X hW (by decide) (z_p1 h) (z_p2 h) dX5_readsStatement_221
theorem CJ5_readsStatement_161 (X : zX p s m args meth c cX5_readsStatement RX5 wsX5_readsStatement 3 D cy ad (some .boolean) A) (N : Nat) : ∀ (y0 : Int) (μ : mm), J5_readsStatement_161 N y0 μ = some res → ∀ (H : Heap) (locs : List Loc) (ls : Array Slot), zW D cy ad A s.heap μ H locs → lv_has ls 3 [(0, .ref (ad 0))] → W p l e (rmD 2) s m args below meth c H locs 0 0 (MQ below (zQi D cy ad A res.1 res.2) args s 0 0 A) (F0 m 161 ls [.int (iO y0)]) := by
  intro y0 μ h H locs ls hW hl
  rw [J5_readsStatement_161] at h
  refine z_istore_n (pc := 161) (i := 2) X.1 [(2, .int (iO y0)), (0, .ref (ad 0))] hl rfl rfl (by decide) rfl dX5_readsStatement_161 (fun ls hl => ?_)
  refine z_goto (pc := 162) (tgt := 207) X.1 dX5_readsStatement_162 (by decide) ?_
  exact CJ5_readsStatement_207 X N y0 μ h _ _ ls hW (lv_sub hl [1, 0] rfl)
theorem CJ5_readsStatement_160 (X : zX p s m args meth c cX5_readsStatement RX5 wsX5_readsStatement 3 D cy ad (some .boolean) A) (N : Nat) : ∀ (μ : mm), J5_readsStatement_160 N μ = some res → ∀ (H : Heap) (locs : List Loc) (ls : Array Slot), zW D cy ad A s.heap μ H locs → lv_has ls 3 [(0, .ref (ad 0))] → W p l e (rmD 2) s m args below meth c H locs 0 0 (MQ below (zQi D cy ad A res.1 res.2) args s 0 0 A) (F0 m 160 ls []) := by
  intro μ h H locs ls hW hl
  rw [J5_readsStatement_160] at h
  refine z_iconst (pc := 160) X.1 dX5_readsStatement_160 ?_
  exact CJ5_readsStatement_161 X N 0 μ h _ _ ls hW (lv_sub hl [0] rfl)
theorem CJ5_readsStatement_134 (X : zX p s m args meth c cX5_readsStatement RX5 wsX5_readsStatement 3 D cy ad (some .boolean) A) (N : Nat) : ∀ (y0 : Int) (μ : mm), J5_readsStatement_134 N y0 μ = some res → ∀ (H : Heap) (locs : List Loc) (ls : Array Slot), zW D cy ad A s.heap μ H locs → lv_has ls 3 [(0, .ref (ad 0))] → W p l e (rmD 2) s m args below meth c H locs 0 0 (MQ below (zQi D cy ad A res.1 res.2) args s 0 0 A) (F0 m 134 ls [.int (iO y0)]) := by
  intro y0 μ h H locs ls hW hl
  rw [J5_readsStatement_134] at h
  refine z_istore_n (pc := 134) (i := 2) X.1 [(2, .int (iO y0)), (0, .ref (ad 0))] hl rfl rfl (by decide) rfl dX5_readsStatement_134 (fun ls hl => ?_)
  refine z_goto (pc := 135) (tgt := 207) X.1 dX5_readsStatement_135 (by decide) ?_
  exact CJ5_readsStatement_207 X N y0 μ h _ _ ls hW (lv_sub hl [1, 0] rfl)
theorem CJ5_readsStatement_133 (X : zX p s m args meth c cX5_readsStatement RX5 wsX5_readsStatement 3 D cy ad (some .boolean) A) (N : Nat) : ∀ (μ : mm), J5_readsStatement_133 N μ = some res → ∀ (H : Heap) (locs : List Loc) (ls : Array Slot), zW D cy ad A s.heap μ H locs → lv_has ls 3 [(0, .ref (ad 0))] → W p l e (rmD 2) s m args below meth c H locs 0 0 (MQ below (zQi D cy ad A res.1 res.2) args s 0 0 A) (F0 m 133 ls []) := by
  intro μ h H locs ls hW hl
  rw [J5_readsStatement_133] at h
  refine z_iconst (pc := 133) X.1 dX5_readsStatement_133 ?_
  exact CJ5_readsStatement_134 X N 0 μ h _ _ ls hW (lv_sub hl [0] rfl)
end
theorem C5_readsStatement (l : Launch) {D : va_G} {cy : ClassId × ClassId} {ad : Nat → Nat} (N : Nat)  (μ : mm) {res : (Int × mm)} (h : M5_readsStatement N μ = some res) : zI l yX5_readsStatement wsX5_readsStatement 2 D cy ad [.ref (ad 0)] μ res.1 res.2 := by
  refine zI.of RX5 rfl (by decide) rfl (Nat.le_of_ble_eq_true rfl) ?_
  intro p e s m args below meth c A X hW ls hl
  have hl : lv_has ls 3 [(0, .ref (ad 0))] := hl
  unfold M5_readsStatement at h
  refine z_aload_n (pc := 0) X.1 hl 0 rfl rfl dX5_readsStatement_0 ?_
  obtain ⟨q1, eq1, h⟩ := z_bind h
  refine z_callV1I (pc := 1) (n := 0) (As := []) (rest := []) X hW hl rfl (C5_here l N  μ eq1) gX5_readsStatement_X5_here rfl (by decide +kernel) rfl (by decide) rfl (Nat.le_of_ble_eq_true rfl) dX5_readsStatement_1 (fun H locs hW => ?_)
  refine z_istore_n (pc := 4) (i := 1) X.1 [(1, .int (iO q1)), (0, .ref (ad 0))] hl rfl rfl (by decide) rfl dX5_readsStatement_4 (fun ls hl => ?_)
  refine z_aload_n (pc := 5) X.1 hl 1 rfl rfl dX5_readsStatement_5 ?_
  refine z_dup (pc := 6) X.1 dX5_readsStatement_6 rfl ?_
  refine z_get1 (pc := 7) X.1 hW rfl iX5_readsStatement_1 10 (by decide) rfl (by decide +kernel) dX5_readsStatement_7 ?_
  refine z_iconst (pc := 10) X.1 dX5_readsStatement_10 ?_
  refine z_iadd (pc := 11) X.1 dX5_readsStatement_11 ?_
  obtain ⟨μ2, eμ2, h⟩ := z_bnd h
  refine z_put1_10 (pc := 12) X.1 hW rfl iX5_readsStatement_1 (by decide +kernel) dX5_readsStatement_12 (fun H locs hW => ?_)
  rw [← eμ2] at hW
  refine z_iload_n (pc := 15) X.1 hl 0 rfl rfl dX5_readsStatement_15 ?_
  obtain ⟨g3, h⟩ := z_guard h
  by_cases c11 : q1 = 100
  · rw [if_pos c11] at h
    refine z_tin (pc := 16) (v := 100) (tgt := 185) X.1 dX5_readsStatement_16 c11 (by decide) (by decide) rfl (by decide) ?_
    refine z_aload_n (pc := 185) X.1 hl 1 rfl rfl dX5_readsStatement_185 ?_
    refine z_iconst (pc := 186) X.1 dX5_readsStatement_186 ?_
    refine z_iconst (pc := 187) X.1 dX5_readsStatement_187 ?_
    obtain ⟨q4, eq4, h⟩ := z_bind h
    refine z_callV1I (pc := 188) (n := 2) (As := [.int (iO 0), .int (iO 2)]) (rest := []) X hW hl rfl (C5_readsNumber l N 0 2 μ2 eq4) gX5_readsStatement_X5_readsNumber rfl (by decide +kernel) rfl (by decide) rfl (Nat.le_of_ble_eq_true rfl) dX5_readsStatement_188 (fun H locs hW => ?_)
    refine z_istore_n (pc := 191) (i := 2) X.1 [(2, .int (iO q4.1)), (1, .int (iO q1)), (0, .ref (ad 0))] hl rfl rfl (by decide) rfl dX5_readsStatement_191 (fun ls hl => ?_)
    refine z_goto (pc := 192) (tgt := 207) X.1 dX5_readsStatement_192 (by decide) ?_
    exact CJ5_readsStatement_207 X N q4.1 q4.2 h _ _ ls hW (lv_sub hl [2, 0] rfl)
  · rw [if_neg c11] at h
    by_cases c13 : q1 = 101
    · rw [if_pos c13] at h
      refine z_tin (pc := 16) (v := 101) (tgt := 195) X.1 dX5_readsStatement_16 c13 (by decide) (by decide) rfl (by decide) ?_
      refine z_aload_n (pc := 195) X.1 hl 1 rfl rfl dX5_readsStatement_195 ?_
      refine z_dup (pc := 196) X.1 dX5_readsStatement_196 rfl ?_
      refine z_get1 (pc := 197) X.1 hW rfl iX5_readsStatement_1 10 (by decide) rfl (by decide +kernel) dX5_readsStatement_197 ?_
      refine z_iconst (pc := 200) X.1 dX5_readsStatement_200 ?_
      refine z_isub (pc := 201) X.1 dX5_readsStatement_201 ?_
      obtain ⟨μ12, eμ12, h⟩ := z_bnd h
      refine z_put1_10 (pc := 202) X.1 hW rfl iX5_readsStatement_1 (by decide +kernel) dX5_readsStatement_202 (fun H locs hW => ?_)
      rw [← eμ12] at hW
      refine z_iconst (pc := 205) X.1 dX5_readsStatement_205 ?_
      exact z_zret (pc := 206) X hW (by decide) (z_p1 h) (z_p2 h) dX5_readsStatement_206
    · rw [if_neg c13] at h
      by_cases c15 : q1 = 102
      · rw [if_pos c15] at h
        refine z_tin (pc := 16) (v := 102) (tgt := 195) X.1 dX5_readsStatement_16 c15 (by decide) (by decide) rfl (by decide) ?_
        refine z_aload_n (pc := 195) X.1 hl 1 rfl rfl dX5_readsStatement_195 ?_
        refine z_dup (pc := 196) X.1 dX5_readsStatement_196 rfl ?_
        refine z_get1 (pc := 197) X.1 hW rfl iX5_readsStatement_1 10 (by decide) rfl (by decide +kernel) dX5_readsStatement_197 ?_
        refine z_iconst (pc := 200) X.1 dX5_readsStatement_200 ?_
        refine z_isub (pc := 201) X.1 dX5_readsStatement_201 ?_
        obtain ⟨μ14, eμ14, h⟩ := z_bnd h
        refine z_put1_10 (pc := 202) X.1 hW rfl iX5_readsStatement_1 (by decide +kernel) dX5_readsStatement_202 (fun H locs hW => ?_)
        rw [← eμ14] at hW
        refine z_iconst (pc := 205) X.1 dX5_readsStatement_205 ?_
        exact z_zret (pc := 206) X hW (by decide) (z_p1 h) (z_p2 h) dX5_readsStatement_206
      · rw [if_neg c15] at h
        by_cases c17 : q1 = 103
        · rw [if_pos c17] at h
          refine z_tin (pc := 16) (v := 103) (tgt := 175) X.1 dX5_readsStatement_16 c17 (by decide) (by decide) rfl (by decide) ?_
          refine z_aload_n (pc := 175) X.1 hl 1 rfl rfl dX5_readsStatement_175 ?_
          refine z_iconst (pc := 176) X.1 dX5_readsStatement_176 ?_
          refine z_iconst (pc := 177) X.1 dX5_readsStatement_177 ?_
          obtain ⟨q16, eq16, h⟩ := z_bind h
          refine z_callV1I (pc := 178) (n := 2) (As := [.int (iO 0), .int (iO 3)]) (rest := []) X hW hl rfl (C5_readsNumber l N 0 3 μ2 eq16) gX5_readsStatement_X5_readsNumber rfl (by decide +kernel) rfl (by decide) rfl (Nat.le_of_ble_eq_true rfl) dX5_readsStatement_178 (fun H locs hW => ?_)
          refine z_istore_n (pc := 181) (i := 2) X.1 [(2, .int (iO q16.1)), (1, .int (iO q1)), (0, .ref (ad 0))] hl rfl rfl (by decide) rfl dX5_readsStatement_181 (fun ls hl => ?_)
          refine z_goto (pc := 182) (tgt := 207) X.1 dX5_readsStatement_182 (by decide) ?_
          exact CJ5_readsStatement_207 X N q16.1 q16.2 h _ _ ls hW (lv_sub hl [2, 0] rfl)
        · rw [if_neg c17] at h
          by_cases c19 : q1 = 104
          · rw [if_pos c19] at h
            refine z_tin (pc := 16) (v := 104) (tgt := 195) X.1 dX5_readsStatement_16 c19 (by decide) (by decide) rfl (by decide) ?_
            refine z_aload_n (pc := 195) X.1 hl 1 rfl rfl dX5_readsStatement_195 ?_
            refine z_dup (pc := 196) X.1 dX5_readsStatement_196 rfl ?_
            refine z_get1 (pc := 197) X.1 hW rfl iX5_readsStatement_1 10 (by decide) rfl (by decide +kernel) dX5_readsStatement_197 ?_
            refine z_iconst (pc := 200) X.1 dX5_readsStatement_200 ?_
            refine z_isub (pc := 201) X.1 dX5_readsStatement_201 ?_
            obtain ⟨μ18, eμ18, h⟩ := z_bnd h
            refine z_put1_10 (pc := 202) X.1 hW rfl iX5_readsStatement_1 (by decide +kernel) dX5_readsStatement_202 (fun H locs hW => ?_)
            rw [← eμ18] at hW
            refine z_iconst (pc := 205) X.1 dX5_readsStatement_205 ?_
            exact z_zret (pc := 206) X hW (by decide) (z_p1 h) (z_p2 h) dX5_readsStatement_206
          · rw [if_neg c19] at h
            by_cases c26 : q1 = 105
            · rw [if_pos c26] at h
              refine z_tin (pc := 16) (v := 105) (tgt := 138) X.1 dX5_readsStatement_16 c26 (by decide) (by decide) rfl (by decide) ?_
              refine z_aload_n (pc := 138) X.1 hl 1 rfl rfl dX5_readsStatement_138 ?_
              refine z_iconst (pc := 139) X.1 dX5_readsStatement_139 ?_
              refine z_iconst (pc := 140) X.1 dX5_readsStatement_140 ?_
              obtain ⟨q20, eq20, h⟩ := z_bind h
              refine z_callV1I (pc := 141) (n := 2) (As := [.int (iO 0), .int (iO 1)]) (rest := []) X hW hl rfl (C5_readsNumber l N 0 1 μ2 eq20) gX5_readsStatement_X5_readsNumber rfl (by decide +kernel) rfl (by decide) rfl (Nat.le_of_ble_eq_true rfl) dX5_readsStatement_141 (fun H locs hW => ?_)
              obtain ⟨g21, h⟩ := z_guard h
              refine z_if_eq (pc := 144) (tgt := 160) X.1 dX5_readsStatement_144 (by decide) g21 h (fun c25 h => ?_) (fun c25 h => ?_)
              · exact CJ5_readsStatement_160 X N  q20.2 h _ _ ls hW (lv_sub hl [1] rfl)
              · refine z_aload_n (pc := 147) X.1 hl 1 rfl rfl dX5_readsStatement_147 ?_
                refine z_iconst (pc := 148) X.1 dX5_readsStatement_148 ?_
                refine z_iconst (pc := 149) X.1 dX5_readsStatement_149 ?_
                obtain ⟨q22, eq22, h⟩ := z_bind h
                refine z_callV1I (pc := 150) (n := 2) (As := [.int (iO 1), .int (iO 2)]) (rest := []) X hW hl rfl (C5_readsNumber l N 1 2 q20.2 eq22) gX5_readsStatement_X5_readsNumber rfl (by decide +kernel) rfl (by decide) rfl (Nat.le_of_ble_eq_true rfl) dX5_readsStatement_150 (fun H locs hW => ?_)
                obtain ⟨g23, h⟩ := z_guard h
                refine z_if_eq (pc := 153) (tgt := 160) X.1 dX5_readsStatement_153 (by decide) g23 h (fun c24 h => ?_) (fun c24 h => ?_)
                · exact CJ5_readsStatement_160 X N  q22.2 h _ _ ls hW (lv_sub hl [1] rfl)
                · refine z_iconst (pc := 156) X.1 dX5_readsStatement_156 ?_
                  refine z_goto (pc := 157) (tgt := 161) X.1 dX5_readsStatement_157 (by decide) ?_
                  exact CJ5_readsStatement_161 X N 1 q22.2 h _ _ ls hW (lv_sub hl [1] rfl)
            · rw [if_neg c26] at h
              by_cases c28 : q1 = 106
              · rw [if_pos c28] at h
                refine z_tin (pc := 16) (v := 106) (tgt := 195) X.1 dX5_readsStatement_16 c28 (by decide) (by decide) rfl (by decide) ?_
                refine z_aload_n (pc := 195) X.1 hl 1 rfl rfl dX5_readsStatement_195 ?_
                refine z_dup (pc := 196) X.1 dX5_readsStatement_196 rfl ?_
                refine z_get1 (pc := 197) X.1 hW rfl iX5_readsStatement_1 10 (by decide) rfl (by decide +kernel) dX5_readsStatement_197 ?_
                refine z_iconst (pc := 200) X.1 dX5_readsStatement_200 ?_
                refine z_isub (pc := 201) X.1 dX5_readsStatement_201 ?_
                obtain ⟨μ27, eμ27, h⟩ := z_bnd h
                refine z_put1_10 (pc := 202) X.1 hW rfl iX5_readsStatement_1 (by decide +kernel) dX5_readsStatement_202 (fun H locs hW => ?_)
                rw [← eμ27] at hW
                refine z_iconst (pc := 205) X.1 dX5_readsStatement_205 ?_
                exact z_zret (pc := 206) X hW (by decide) (z_p1 h) (z_p2 h) dX5_readsStatement_206
              · rw [if_neg c28] at h
                by_cases c30 : q1 = 107
                · rw [if_pos c30] at h
                  refine z_tin (pc := 16) (v := 107) (tgt := 195) X.1 dX5_readsStatement_16 c30 (by decide) (by decide) rfl (by decide) ?_
                  refine z_aload_n (pc := 195) X.1 hl 1 rfl rfl dX5_readsStatement_195 ?_
                  refine z_dup (pc := 196) X.1 dX5_readsStatement_196 rfl ?_
                  refine z_get1 (pc := 197) X.1 hW rfl iX5_readsStatement_1 10 (by decide) rfl (by decide +kernel) dX5_readsStatement_197 ?_
                  refine z_iconst (pc := 200) X.1 dX5_readsStatement_200 ?_
                  refine z_isub (pc := 201) X.1 dX5_readsStatement_201 ?_
                  obtain ⟨μ29, eμ29, h⟩ := z_bnd h
                  refine z_put1_10 (pc := 202) X.1 hW rfl iX5_readsStatement_1 (by decide +kernel) dX5_readsStatement_202 (fun H locs hW => ?_)
                  rw [← eμ29] at hW
                  refine z_iconst (pc := 205) X.1 dX5_readsStatement_205 ?_
                  exact z_zret (pc := 206) X hW (by decide) (z_p1 h) (z_p2 h) dX5_readsStatement_206
                · rw [if_neg c30] at h
                  by_cases c32 : q1 = 108
                  · rw [if_pos c32] at h
                    refine z_tin (pc := 16) (v := 108) (tgt := 195) X.1 dX5_readsStatement_16 c32 (by decide) (by decide) rfl (by decide) ?_
                    refine z_aload_n (pc := 195) X.1 hl 1 rfl rfl dX5_readsStatement_195 ?_
                    refine z_dup (pc := 196) X.1 dX5_readsStatement_196 rfl ?_
                    refine z_get1 (pc := 197) X.1 hW rfl iX5_readsStatement_1 10 (by decide) rfl (by decide +kernel) dX5_readsStatement_197 ?_
                    refine z_iconst (pc := 200) X.1 dX5_readsStatement_200 ?_
                    refine z_isub (pc := 201) X.1 dX5_readsStatement_201 ?_
                    obtain ⟨μ31, eμ31, h⟩ := z_bnd h
                    refine z_put1_10 (pc := 202) X.1 hW rfl iX5_readsStatement_1 (by decide +kernel) dX5_readsStatement_202 (fun H locs hW => ?_)
                    rw [← eμ31] at hW
                    refine z_iconst (pc := 205) X.1 dX5_readsStatement_205 ?_
                    exact z_zret (pc := 206) X hW (by decide) (z_p1 h) (z_p2 h) dX5_readsStatement_206
                  · rw [if_neg c32] at h
                    by_cases c34 : q1 = 109
                    · rw [if_pos c34] at h
                      refine z_tin (pc := 16) (v := 109) (tgt := 195) X.1 dX5_readsStatement_16 c34 (by decide) (by decide) rfl (by decide) ?_
                      refine z_aload_n (pc := 195) X.1 hl 1 rfl rfl dX5_readsStatement_195 ?_
                      refine z_dup (pc := 196) X.1 dX5_readsStatement_196 rfl ?_
                      refine z_get1 (pc := 197) X.1 hW rfl iX5_readsStatement_1 10 (by decide) rfl (by decide +kernel) dX5_readsStatement_197 ?_
                      refine z_iconst (pc := 200) X.1 dX5_readsStatement_200 ?_
                      refine z_isub (pc := 201) X.1 dX5_readsStatement_201 ?_
                      obtain ⟨μ33, eμ33, h⟩ := z_bnd h
                      refine z_put1_10 (pc := 202) X.1 hW rfl iX5_readsStatement_1 (by decide +kernel) dX5_readsStatement_202 (fun H locs hW => ?_)
                      rw [← eμ33] at hW
                      refine z_iconst (pc := 205) X.1 dX5_readsStatement_205 ?_
                      exact z_zret (pc := 206) X hW (by decide) (z_p1 h) (z_p2 h) dX5_readsStatement_206
                    · rw [if_neg c34] at h
                      by_cases c36 : q1 = 110
                      · rw [if_pos c36] at h
                        refine z_tin (pc := 16) (v := 110) (tgt := 195) X.1 dX5_readsStatement_16 c36 (by decide) (by decide) rfl (by decide) ?_
                        refine z_aload_n (pc := 195) X.1 hl 1 rfl rfl dX5_readsStatement_195 ?_
                        refine z_dup (pc := 196) X.1 dX5_readsStatement_196 rfl ?_
                        refine z_get1 (pc := 197) X.1 hW rfl iX5_readsStatement_1 10 (by decide) rfl (by decide +kernel) dX5_readsStatement_197 ?_
                        refine z_iconst (pc := 200) X.1 dX5_readsStatement_200 ?_
                        refine z_isub (pc := 201) X.1 dX5_readsStatement_201 ?_
                        obtain ⟨μ35, eμ35, h⟩ := z_bnd h
                        refine z_put1_10 (pc := 202) X.1 hW rfl iX5_readsStatement_1 (by decide +kernel) dX5_readsStatement_202 (fun H locs hW => ?_)
                        rw [← eμ35] at hW
                        refine z_iconst (pc := 205) X.1 dX5_readsStatement_205 ?_
                        exact z_zret (pc := 206) X hW (by decide) (z_p1 h) (z_p2 h) dX5_readsStatement_206
                      · rw [if_neg c36] at h
                        by_cases c38 : q1 = 111
                        · rw [if_pos c38] at h
                          refine z_tin (pc := 16) (v := 111) (tgt := 195) X.1 dX5_readsStatement_16 c38 (by decide) (by decide) rfl (by decide) ?_
                          refine z_aload_n (pc := 195) X.1 hl 1 rfl rfl dX5_readsStatement_195 ?_
                          refine z_dup (pc := 196) X.1 dX5_readsStatement_196 rfl ?_
                          refine z_get1 (pc := 197) X.1 hW rfl iX5_readsStatement_1 10 (by decide) rfl (by decide +kernel) dX5_readsStatement_197 ?_
                          refine z_iconst (pc := 200) X.1 dX5_readsStatement_200 ?_
                          refine z_isub (pc := 201) X.1 dX5_readsStatement_201 ?_
                          obtain ⟨μ37, eμ37, h⟩ := z_bnd h
                          refine z_put1_10 (pc := 202) X.1 hW rfl iX5_readsStatement_1 (by decide +kernel) dX5_readsStatement_202 (fun H locs hW => ?_)
                          rw [← eμ37] at hW
                          refine z_iconst (pc := 205) X.1 dX5_readsStatement_205 ?_
                          exact z_zret (pc := 206) X hW (by decide) (z_p1 h) (z_p2 h) dX5_readsStatement_206
                        · rw [if_neg c38] at h
                          by_cases c48 : q1 = 112
                          · rw [if_pos c48] at h
                            refine z_tin (pc := 16) (v := 112) (tgt := 104) X.1 dX5_readsStatement_16 c48 (by decide) (by decide) rfl (by decide) ?_
                            refine z_aload_n (pc := 104) X.1 hl 1 rfl rfl dX5_readsStatement_104 ?_
                            obtain ⟨q39, eq39, h⟩ := z_bind h
                            refine z_callV1I (pc := 105) (n := 0) (As := []) (rest := []) X hW hl rfl (C5_readsKind l N  μ2 eq39) gX5_readsStatement_X5_readsKind rfl (by decide +kernel) rfl (by decide) rfl (Nat.le_of_ble_eq_true rfl) dX5_readsStatement_105 (fun H locs hW => ?_)
                            obtain ⟨g40, h⟩ := z_guard h
                            refine z_if_eq (pc := 108) (tgt := 133) X.1 dX5_readsStatement_108 (by decide) g40 h (fun c47 h => ?_) (fun c47 h => ?_)
                            · exact CJ5_readsStatement_133 X N  q39.2 h _ _ ls hW (lv_sub hl [1] rfl)
                            · refine z_aload_n (pc := 111) X.1 hl 1 rfl rfl dX5_readsStatement_111 ?_
                              refine z_iconst (pc := 112) X.1 dX5_readsStatement_112 ?_
                              refine z_iconst (pc := 113) X.1 dX5_readsStatement_113 ?_
                              obtain ⟨q41, eq41, h⟩ := z_bind h
                              refine z_callV1I (pc := 114) (n := 2) (As := [.int (iO 1), .int (iO 1)]) (rest := []) X hW hl rfl (C5_readsNumber l N 1 1 q39.2 eq41) gX5_readsStatement_X5_readsNumber rfl (by decide +kernel) rfl (by decide) rfl (Nat.le_of_ble_eq_true rfl) dX5_readsStatement_114 (fun H locs hW => ?_)
                              obtain ⟨g42, h⟩ := z_guard h
                              refine z_if_eq (pc := 117) (tgt := 133) X.1 dX5_readsStatement_117 (by decide) g42 h (fun c46 h => ?_) (fun c46 h => ?_)
                              · exact CJ5_readsStatement_133 X N  q41.2 h _ _ ls hW (lv_sub hl [1] rfl)
                              · refine z_aload_n (pc := 120) X.1 hl 1 rfl rfl dX5_readsStatement_120 ?_
                                refine z_iconst (pc := 121) X.1 dX5_readsStatement_121 ?_
                                refine z_iconst (pc := 122) X.1 dX5_readsStatement_122 ?_
                                obtain ⟨q43, eq43, h⟩ := z_bind h
                                refine z_callV1I (pc := 123) (n := 2) (As := [.int (iO 2), .int (iO 2)]) (rest := []) X hW hl rfl (C5_readsNumber l N 2 2 q41.2 eq43) gX5_readsStatement_X5_readsNumber rfl (by decide +kernel) rfl (by decide) rfl (Nat.le_of_ble_eq_true rfl) dX5_readsStatement_123 (fun H locs hW => ?_)
                                obtain ⟨g44, h⟩ := z_guard h
                                refine z_if_eq (pc := 126) (tgt := 133) X.1 dX5_readsStatement_126 (by decide) g44 h (fun c45 h => ?_) (fun c45 h => ?_)
                                · exact CJ5_readsStatement_133 X N  q43.2 h _ _ ls hW (lv_sub hl [1] rfl)
                                · refine z_iconst (pc := 129) X.1 dX5_readsStatement_129 ?_
                                  refine z_goto (pc := 130) (tgt := 134) X.1 dX5_readsStatement_130 (by decide) ?_
                                  exact CJ5_readsStatement_134 X N 1 q43.2 h _ _ ls hW (lv_sub hl [1] rfl)
                          · rw [if_neg c48] at h
                            by_cases c50 : q1 = 113
                            · rw [if_pos c50] at h
                              refine z_tin (pc := 16) (v := 113) (tgt := 195) X.1 dX5_readsStatement_16 c50 (by decide) (by decide) rfl (by decide) ?_
                              refine z_aload_n (pc := 195) X.1 hl 1 rfl rfl dX5_readsStatement_195 ?_
                              refine z_dup (pc := 196) X.1 dX5_readsStatement_196 rfl ?_
                              refine z_get1 (pc := 197) X.1 hW rfl iX5_readsStatement_1 10 (by decide) rfl (by decide +kernel) dX5_readsStatement_197 ?_
                              refine z_iconst (pc := 200) X.1 dX5_readsStatement_200 ?_
                              refine z_isub (pc := 201) X.1 dX5_readsStatement_201 ?_
                              obtain ⟨μ49, eμ49, h⟩ := z_bnd h
                              refine z_put1_10 (pc := 202) X.1 hW rfl iX5_readsStatement_1 (by decide +kernel) dX5_readsStatement_202 (fun H locs hW => ?_)
                              rw [← eμ49] at hW
                              refine z_iconst (pc := 205) X.1 dX5_readsStatement_205 ?_
                              exact z_zret (pc := 206) X hW (by decide) (z_p1 h) (z_p2 h) dX5_readsStatement_206
                            · rw [if_neg c50] at h
                              by_cases c52 : q1 = 114
                              · rw [if_pos c52] at h
                                refine z_tin (pc := 16) (v := 114) (tgt := 165) X.1 dX5_readsStatement_16 c52 (by decide) (by decide) rfl (by decide) ?_
                                refine z_aload_n (pc := 165) X.1 hl 1 rfl rfl dX5_readsStatement_165 ?_
                                refine z_iconst (pc := 166) X.1 dX5_readsStatement_166 ?_
                                refine z_iconst (pc := 167) X.1 dX5_readsStatement_167 ?_
                                obtain ⟨q51, eq51, h⟩ := z_bind h
                                refine z_callV1I (pc := 168) (n := 2) (As := [.int (iO 0), .int (iO 1)]) (rest := []) X hW hl rfl (C5_readsNumber l N 0 1 μ2 eq51) gX5_readsStatement_X5_readsNumber rfl (by decide +kernel) rfl (by decide) rfl (Nat.le_of_ble_eq_true rfl) dX5_readsStatement_168 (fun H locs hW => ?_)
                                refine z_istore_n (pc := 171) (i := 2) X.1 [(2, .int (iO q51.1)), (1, .int (iO q1)), (0, .ref (ad 0))] hl rfl rfl (by decide) rfl dX5_readsStatement_171 (fun ls hl => ?_)
                                refine z_goto (pc := 172) (tgt := 207) X.1 dX5_readsStatement_172 (by decide) ?_
                                exact CJ5_readsStatement_207 X N q51.1 q51.2 h _ _ ls hW (lv_sub hl [2, 0] rfl)
                              · rw [if_neg c52] at h
                                by_cases c54 : q1 = 115
                                · rw [if_pos c54] at h
                                  refine z_tin (pc := 16) (v := 115) (tgt := 195) X.1 dX5_readsStatement_16 c54 (by decide) (by decide) rfl (by decide) ?_
                                  refine z_aload_n (pc := 195) X.1 hl 1 rfl rfl dX5_readsStatement_195 ?_
                                  refine z_dup (pc := 196) X.1 dX5_readsStatement_196 rfl ?_
                                  refine z_get1 (pc := 197) X.1 hW rfl iX5_readsStatement_1 10 (by decide) rfl (by decide +kernel) dX5_readsStatement_197 ?_
                                  refine z_iconst (pc := 200) X.1 dX5_readsStatement_200 ?_
                                  refine z_isub (pc := 201) X.1 dX5_readsStatement_201 ?_
                                  obtain ⟨μ53, eμ53, h⟩ := z_bnd h
                                  refine z_put1_10 (pc := 202) X.1 hW rfl iX5_readsStatement_1 (by decide +kernel) dX5_readsStatement_202 (fun H locs hW => ?_)
                                  rw [← eμ53] at hW
                                  refine z_iconst (pc := 205) X.1 dX5_readsStatement_205 ?_
                                  exact z_zret (pc := 206) X hW (by decide) (z_p1 h) (z_p2 h) dX5_readsStatement_206
                                · rw [if_neg c54] at h
                                  by_cases c56 : q1 = 116
                                  · rw [if_pos c56] at h
                                    refine z_tin (pc := 16) (v := 116) (tgt := 195) X.1 dX5_readsStatement_16 c56 (by decide) (by decide) rfl (by decide) ?_
                                    refine z_aload_n (pc := 195) X.1 hl 1 rfl rfl dX5_readsStatement_195 ?_
                                    refine z_dup (pc := 196) X.1 dX5_readsStatement_196 rfl ?_
                                    refine z_get1 (pc := 197) X.1 hW rfl iX5_readsStatement_1 10 (by decide) rfl (by decide +kernel) dX5_readsStatement_197 ?_
                                    refine z_iconst (pc := 200) X.1 dX5_readsStatement_200 ?_
                                    refine z_isub (pc := 201) X.1 dX5_readsStatement_201 ?_
                                    obtain ⟨μ55, eμ55, h⟩ := z_bnd h
                                    refine z_put1_10 (pc := 202) X.1 hW rfl iX5_readsStatement_1 (by decide +kernel) dX5_readsStatement_202 (fun H locs hW => ?_)
                                    rw [← eμ55] at hW
                                    refine z_iconst (pc := 205) X.1 dX5_readsStatement_205 ?_
                                    exact z_zret (pc := 206) X hW (by decide) (z_p1 h) (z_p2 h) dX5_readsStatement_206
                                  · rw [if_neg c56] at h
                                    by_cases c63 : q1 = 117
                                    · rw [if_pos c63] at h
                                      refine z_tin (pc := 16) (v := 117) (tgt := 138) X.1 dX5_readsStatement_16 c63 (by decide) (by decide) rfl (by decide) ?_
                                      refine z_aload_n (pc := 138) X.1 hl 1 rfl rfl dX5_readsStatement_138 ?_
                                      refine z_iconst (pc := 139) X.1 dX5_readsStatement_139 ?_
                                      refine z_iconst (pc := 140) X.1 dX5_readsStatement_140 ?_
                                      obtain ⟨q57, eq57, h⟩ := z_bind h
                                      refine z_callV1I (pc := 141) (n := 2) (As := [.int (iO 0), .int (iO 1)]) (rest := []) X hW hl rfl (C5_readsNumber l N 0 1 μ2 eq57) gX5_readsStatement_X5_readsNumber rfl (by decide +kernel) rfl (by decide) rfl (Nat.le_of_ble_eq_true rfl) dX5_readsStatement_141 (fun H locs hW => ?_)
                                      obtain ⟨g58, h⟩ := z_guard h
                                      refine z_if_eq (pc := 144) (tgt := 160) X.1 dX5_readsStatement_144 (by decide) g58 h (fun c62 h => ?_) (fun c62 h => ?_)
                                      · exact CJ5_readsStatement_160 X N  q57.2 h _ _ ls hW (lv_sub hl [1] rfl)
                                      · refine z_aload_n (pc := 147) X.1 hl 1 rfl rfl dX5_readsStatement_147 ?_
                                        refine z_iconst (pc := 148) X.1 dX5_readsStatement_148 ?_
                                        refine z_iconst (pc := 149) X.1 dX5_readsStatement_149 ?_
                                        obtain ⟨q59, eq59, h⟩ := z_bind h
                                        refine z_callV1I (pc := 150) (n := 2) (As := [.int (iO 1), .int (iO 2)]) (rest := []) X hW hl rfl (C5_readsNumber l N 1 2 q57.2 eq59) gX5_readsStatement_X5_readsNumber rfl (by decide +kernel) rfl (by decide) rfl (Nat.le_of_ble_eq_true rfl) dX5_readsStatement_150 (fun H locs hW => ?_)
                                        obtain ⟨g60, h⟩ := z_guard h
                                        refine z_if_eq (pc := 153) (tgt := 160) X.1 dX5_readsStatement_153 (by decide) g60 h (fun c61 h => ?_) (fun c61 h => ?_)
                                        · exact CJ5_readsStatement_160 X N  q59.2 h _ _ ls hW (lv_sub hl [1] rfl)
                                        · refine z_iconst (pc := 156) X.1 dX5_readsStatement_156 ?_
                                          refine z_goto (pc := 157) (tgt := 161) X.1 dX5_readsStatement_157 (by decide) ?_
                                          exact CJ5_readsStatement_161 X N 1 q59.2 h _ _ ls hW (lv_sub hl [1] rfl)
                                    · rw [if_neg c63] at h
                                      refine z_tout (pc := 16) (tgt := 195) X.1 dX5_readsStatement_16 g3 (by omega) (by decide) ?_
                                      refine z_aload_n (pc := 195) X.1 hl 1 rfl rfl dX5_readsStatement_195 ?_
                                      refine z_dup (pc := 196) X.1 dX5_readsStatement_196 rfl ?_
                                      refine z_get1 (pc := 197) X.1 hW rfl iX5_readsStatement_1 10 (by decide) rfl (by decide +kernel) dX5_readsStatement_197 ?_
                                      refine z_iconst (pc := 200) X.1 dX5_readsStatement_200 ?_
                                      refine z_isub (pc := 201) X.1 dX5_readsStatement_201 ?_
                                      obtain ⟨μ64, eμ64, h⟩ := z_bnd h
                                      refine z_put1_10 (pc := 202) X.1 hW rfl iX5_readsStatement_1 (by decide +kernel) dX5_readsStatement_202 (fun H locs hW => ?_)
                                      rw [← eμ64] at hW
                                      refine z_iconst (pc := 205) X.1 dX5_readsStatement_205 ?_
                                      exact z_zret (pc := 206) X hW (by decide) (z_p1 h) (z_p2 h) dX5_readsStatement_206
