-- X5_noWide
theorem C5_noWide (l : Launch) {D : va_G} {cy : ClassId × ClassId} {ad : Nat → Nat} (N : Nat) (a0 : Int) (μ : mm) {res : (Int × mm)} (h : M5_noWide N a0 μ = some res) : zJ l yX5_noWide wsX5_noWide 1 D cy ad [.ref (ad 0), .int (iO a0)] μ res.1 res.2 := by
  refine zJ.of RX5 rfl (by decide) rfl (Nat.le_of_ble_eq_true rfl) ?_
  intro p e s m args below meth c A X hW ls hl
  have hl : lv_has ls 2 [(0, .ref (ad 0)), (1, .int (iO a0))] := hl
  unfold M5_noWide at h
  refine z_ldc2 (pc := 0) (n := 4000000000000000000) X.1 (by decide +kernel) dX5_noWide_0 ?_
  refine z_aload_n (pc := 3) X.1 hl 0 rfl rfl dX5_noWide_3 ?_
  refine z_iload_n (pc := 4) X.1 hl 1 rfl rfl dX5_noWide_4 ?_
  obtain ⟨q1, eq1, h⟩ := z_bind h
  refine z_callV1I (pc := 5) (n := 1) (As := [.int (iO a0)]) (rest := [.long (lO 4000000000000000000)]) X hW hl rfl (C5_no l N a0 μ eq1) gX5_noWide_X5_no rfl (by decide +kernel) rfl (by decide) rfl (Nat.le_of_ble_eq_true rfl) dX5_noWide_5 (fun H locs hW => ?_)
  obtain ⟨g2, h⟩ := z_guard h
  refine z_i2l (pc := 8) X.1 dX5_noWide_8 g2 ?_
  refine z_lsub (pc := 9) X.1 dX5_noWide_9 ?_
  exact z_lret (pc := 10) X hW (z_p1 h) (z_p2 h) dX5_noWide_10
-- X5_of
theorem C5_of (l : Launch) {D : va_G} {cy : ClassId × ClassId} {ad : Nat → Nat} (N : Nat) (a0 : Int) (a1 : Int) (μ0 : mm) : zI l yX5_of wsX5_of 0 D cy ad [.int (iO a0), .int (iO a1)] μ0 ((4 + (6 * a0)) + a1) μ0 := by
  have h : some ((4 + (6 * a0)) + a1) = some ((4 + (6 * a0)) + a1) := rfl
  refine zI.of RX5 rfl (by decide) rfl (Nat.le_of_ble_eq_true rfl) ?_
  intro p e s m args below meth c A X hW ls hl
  have hl : lv_has ls 2 [(0, .int (iO a0)), (1, .int (iO a1))] := hl
  refine z_iconst (pc := 0) X.1 dX5_of_0 ?_
  refine z_bipush (pc := 1) X.1 dX5_of_1 (by decide) ?_
  refine z_iload_n (pc := 3) X.1 hl 0 rfl rfl dX5_of_3 ?_
  refine z_imul (pc := 4) X.1 dX5_of_4 ?_
  refine z_iadd (pc := 5) X.1 dX5_of_5 ?_
  refine z_iload_n (pc := 6) X.1 hl 1 rfl rfl dX5_of_6 ?_
  refine z_iadd (pc := 7) X.1 dX5_of_7 ?_
  exact z_iret (pc := 8) X hW (Option.some.inj h) rfl dX5_of_8
-- X5_isOne
theorem iX5_isOne_1 : ∀ w ∈ wsX50, w ∈ wsX5_isOne := by decide +kernel
theorem C5_isOne (l : Launch) {D : va_G} {cy : ClassId × ClassId} {ad : Nat → Nat} (N : Nat) (a0 : Int) (μ0 : mm) {res : Int} (h : M5_isOne N a0 μ0 = some res) : zI l yX5_isOne wsX5_isOne 1 D cy ad [.ref (ad 0), .int (iO a0)] μ0 res μ0 := by
  refine zI.of RX5 rfl (by decide) rfl (Nat.le_of_ble_eq_true rfl) ?_
  intro p e s m args below meth c A X hW ls hl
  have hl : lv_has ls 2 [(0, .ref (ad 0)), (1, .int (iO a0))] := hl
  unfold M5_isOne at h
  refine z_iload_n (pc := 0) X.1 hl 1 rfl rfl dX5_isOne_0 ?_
  refine z_iconst (pc := 1) X.1 dX5_isOne_1 ?_
  refine z_aload_n (pc := 2) X.1 hl 0 rfl rfl dX5_isOne_2 ?_
  refine z_get1 (pc := 3) X.1 hW rfl iX5_isOne_1 0 (by decide) rfl (by decide +kernel) dX5_isOne_3 ?_
  refine z_iconst (pc := 6) X.1 dX5_isOne_6 ?_
  refine z_iald (pc := 7) X.1 hW rfl ⟨(by decide), (by decide)⟩ dX5_isOne_7 ?_
  refine z_iconst (pc := 8) X.1 dX5_isOne_8 ?_
  refine z_isub (pc := 9) X.1 dX5_isOne_9 ?_
  obtain ⟨q1, eq1, h⟩ := z_bind h
  refine z_callSI (pc := 10) (n := 3) (As := [.int (iO a0), .int (iO 0), .int (iO ((μ0 1 0) - 1))]) (rest := []) X hW hl (C5_isIn l N a0 0 ((μ0 1 0) - 1) μ0 eq1) gX5_isOne_X5_isIn rfl (by decide +kernel) rfl (by decide) rfl (Nat.le_of_ble_eq_true rfl) dX5_isOne_10 (fun H locs hW => ?_)
  obtain ⟨g2, h⟩ := z_guard h
  exact z_zret (pc := 13) X hW g2 (Option.some.inj h) rfl dX5_isOne_13
-- X5_has
theorem C5_has (l : Launch) {D : va_G} {cy : ClassId × ClassId} {ad : Nat → Nat} (N : Nat) (a0 : Int) (a1 : Int) (μ0 : mm) {res : Int} (h : M5_has N a0 a1 μ0 = some res) : zI l yX5_has wsX5_has 0 D cy ad [.int (iO a0), .int (iO a1)] μ0 res μ0 := by
  refine zI.of RX5 rfl (by decide) rfl (Nat.le_of_ble_eq_true rfl) ?_
  intro p e s m args below meth c A X hW ls hl
  have hl : lv_has ls 2 [(0, .int (iO a0)), (1, .int (iO a1))] := hl
  unfold M5_has at h
  refine z_iload_n (pc := 0) X.1 hl 0 rfl rfl dX5_has_0 ?_
  refine z_iload_n (pc := 1) X.1 hl 1 rfl rfl dX5_has_1 ?_
  obtain ⟨g1, h⟩ := z_guard h
  refine z_ishr (pc := 2) X.1 dX5_has_2 ⟨g1.1, g1.2.1, g1.2.2⟩ ?_
  refine z_iconst (pc := 3) X.1 dX5_has_3 ?_
  refine z_iand1 (pc := 4) X.1 dX5_has_4 ?_
  refine z_iconst (pc := 5) X.1 dX5_has_5 ?_
  obtain ⟨g2, h⟩ := z_guard h
  refine z_icmp_ne (pc := 6) (tgt := 13) X.1 dX5_has_6 (by decide) ⟨g2, (by decide)⟩ h (fun c3 h => ?_) (fun c3 h => ?_)
  · refine z_iconst (pc := 13) X.1 dX5_has_13 ?_
    exact z_zret (pc := 14) X hW (by decide) (Option.some.inj h) rfl dX5_has_14
  · refine z_iconst (pc := 9) X.1 dX5_has_9 ?_
    refine z_goto (pc := 10) (tgt := 14) X.1 dX5_has_10 (by decide) ?_
    exact z_zret (pc := 14) X hW (by decide) (Option.some.inj h) rfl dX5_has_14
-- X5_bits
section
variable {p : Program} {l : Launch} {e : Env} {s : State} {m : MethodId} {args : Array Value} {below : List Frame} {meth : Method} {c : Code} {D : va_G} {cy : ClassId × ClassId} {ad : Nat → Nat} {A : Nat → Prop} {res : Int} {μ0 : mm}
theorem CL5_bits_4 (X : zX p s m args meth c cX5_bits RX5 wsX5_bits 3 D cy ad (some .int) A) (N : Nat) : ∀ (k : Nat) (x0 : Int) (x1 : Int) (x2 : Int) (μ : mm) (_ : μ = μ0), L5_bits_4 N k x0 x1 x2 μ = some res → ∀ (H : Heap) (locs : List Loc) (ls : Array Slot), zW D cy ad A s.heap μ H locs → lv_has ls 3 [(0, .int (iO x0)), (1, .int (iO x1)), (2, .int (iO x2))] → W p l e (rmD 0) s m args below meth c H locs 0 0 (MQ below (zQi D cy ad A res μ0) args s 0 0 A) (F0 m 4 ls []) := by
  intro k
  induction k with
  | zero =>
    intro x0 x1 x2 μ em h H locs ls hW hl
    exact absurd h (by rw [L5_bits_4]; exact fun z => by cases z)
  | succ k ih =>
    intro x0 x1 x2 μ em h H locs ls hW hl
    rw [L5_bits_4] at h
    refine z_iload_n (pc := 4) X.1 hl 2 rfl rfl dX5_bits_4 ?_
    refine z_bipush (pc := 5) X.1 dX5_bits_5 (by decide) ?_
    obtain ⟨g1, h⟩ := z_guard h
    refine z_icmp_ge (pc := 7) (tgt := 24) X.1 dX5_bits_7 (by decide) ⟨g1, (by decide)⟩ h (fun c4 h => ?_) (fun c4 h => ?_)
    · refine z_iload_n (pc := 24) X.1 hl 1 rfl rfl dX5_bits_24 ?_
      exact z_iret (pc := 25) X hW (Option.some.inj h) em dX5_bits_25
    · refine z_iload_n (pc := 10) X.1 hl 1 rfl rfl dX5_bits_10 ?_
      refine z_iload_n (pc := 11) X.1 hl 0 rfl rfl dX5_bits_11 ?_
      refine z_iload_n (pc := 12) X.1 hl 2 rfl rfl dX5_bits_12 ?_
      obtain ⟨g2, h⟩ := z_guard h
      refine z_ishr (pc := 13) X.1 dX5_bits_13 ⟨g2.1, g2.2.1, g2.2.2⟩ ?_
      refine z_iconst (pc := 14) X.1 dX5_bits_14 ?_
      refine z_iand1 (pc := 15) X.1 dX5_bits_15 ?_
      refine z_iadd (pc := 16) X.1 dX5_bits_16 ?_
      obtain ⟨w3, ew3, h⟩ := z_bnd h
      refine z_istore_n (pc := 17) (i := 1) X.1 [(1, .int (iO w3)), (0, .int (iO x0)), (2, .int (iO x2))] hl ew3 rfl (by decide) rfl dX5_bits_17 (fun ls hl => ?_)
      refine z_iinc (pc := 18) (i := 2) X.1 [(2, .int (iO (x2 + 1))), (1, .int (iO w3)), (0, .int (iO x0))] hl 2 rfl rfl (by decide) rfl dX5_bits_18 (fun ls hl => ?_)
      refine z_goto (pc := 21) (tgt := 4) X.1 dX5_bits_21 (by decide) ?_
      exact ih x0 w3 (x2 + 1) μ em h _ _ ls hW (lv_sub hl [2, 1, 0] rfl)
end
theorem C5_bits (l : Launch) {D : va_G} {cy : ClassId × ClassId} {ad : Nat → Nat} (N : Nat) (a0 : Int) (μ0 : mm) {res : Int} (h : M5_bits N a0 μ0 = some res) : zI l yX5_bits wsX5_bits 0 D cy ad [.int (iO a0)] μ0 res μ0 := by
  refine zI.of RX5 rfl (by decide) rfl (Nat.le_of_ble_eq_true rfl) ?_
  intro p e s m args below meth c A X hW ls hl
  have hl : lv_has ls 3 [(0, .int (iO a0))] := hl
  unfold M5_bits at h
  refine z_iconst (pc := 0) X.1 dX5_bits_0 ?_
  refine z_istore_n (pc := 1) (i := 1) X.1 [(1, .int (iO 0)), (0, .int (iO a0))] hl rfl rfl (by decide) rfl dX5_bits_1 (fun ls hl => ?_)
  refine z_iconst (pc := 2) X.1 dX5_bits_2 ?_
  refine z_istore_n (pc := 3) (i := 2) X.1 [(2, .int (iO 0)), (1, .int (iO 0)), (0, .int (iO a0))] hl rfl rfl (by decide) rfl dX5_bits_3 (fun ls hl => ?_)
  exact CL5_bits_4 X N N a0 0 0 μ0 rfl h _ _ ls hW (lv_sub hl [2, 1, 0] rfl)
-- X5_needs
theorem C5_needs (l : Launch) {D : va_G} {cy : ClassId × ClassId} {ad : Nat → Nat} (N : Nat) (a0 : Nat) (a1 : Int) (h_a0 : kd a0 = 2 ∧ al a0 = 52) (μ0 : mm) {res : Int} (h : M5_needs N a0 a1 μ0 = some res) : zI l yX5_needs wsX5_needs 1 D cy ad [.ref (ad a0), .int (iO a1)] μ0 res μ0 := by
  refine zI.of RX5 rfl (by decide) rfl (Nat.le_of_ble_eq_true rfl) ?_
  intro p e s m args below meth c A X hW ls hl
  have hl : lv_has ls 3 [(0, .ref (ad a0)), (1, .int (iO a1))] := hl
  unfold M5_needs at h
  refine z_aload_n (pc := 0) X.1 hl 0 rfl rfl dX5_needs_0 ?_
  refine z_iload_n (pc := 1) X.1 hl 1 rfl rfl dX5_needs_1 ?_
  refine z_iconst (pc := 2) X.1 dX5_needs_2 ?_
  refine z_callSI (pc := 3) (n := 2) (As := [.int (iO a1), .int (iO 1)]) (rest := [.ref (ad a0)]) X hW hl (C5_of l N a1 1 μ0) gX5_needs_X5_of rfl (by decide +kernel) rfl (by decide) rfl (Nat.le_of_ble_eq_true rfl) dX5_needs_3 (fun H locs hW => ?_)
  obtain ⟨g1, h⟩ := z_guard h
  refine z_iald (pc := 6) X.1 hW h_a0.1 ⟨g1.1, (z_al52 h_a0 g1.2)⟩ dX5_needs_6 ?_
  obtain ⟨w2, ew2, h⟩ := z_bnd h
  refine z_istore_n (pc := 7) (i := 2) X.1 [(2, .int (iO w2)), (0, .ref (ad a0)), (1, .int (iO a1))] hl ew2 rfl (by decide) rfl dX5_needs_7 (fun ls hl => ?_)
  refine z_aload_n (pc := 8) X.1 hl 1 rfl rfl dX5_needs_8 ?_
  refine z_iload_n (pc := 9) X.1 hl 2 rfl rfl dX5_needs_9 ?_
  refine z_iconst (pc := 10) X.1 dX5_needs_10 ?_
  refine z_callSI (pc := 11) (n := 2) (As := [.int (iO a1), .int (iO 0)]) (rest := [.ref (ad a0)]) X hW hl (C5_of l N a1 0 μ0) gX5_needs_X5_of rfl (by decide +kernel) rfl (by decide) rfl (Nat.le_of_ble_eq_true rfl) dX5_needs_11 (fun H locs hW => ?_)
  obtain ⟨g3, h⟩ := z_guard h
  refine z_iald (pc := 14) X.1 hW h_a0.1 ⟨g3.1, (z_al52 h_a0 g3.2)⟩ dX5_needs_14 ?_
  obtain ⟨g4, h⟩ := z_guard h
  by_cases c5 : (μ0 a0 (((4 + (6 * a1)) + 0)).toNat) = 1
  · rw [if_pos c5] at h
    refine z_tin (pc := 15) (v := 1) (tgt := 48) X.1 dX5_needs_15 c5 (by decide) (by decide) rfl (by decide) ?_
    refine z_iload_n (pc := 48) X.1 hl 0 rfl rfl dX5_needs_48 ?_
    refine z_iconst (pc := 49) X.1 dX5_needs_49 ?_
    refine z_iadd (pc := 50) X.1 dX5_needs_50 ?_
    exact z_iret (pc := 51) X hW (Option.some.inj h) rfl dX5_needs_51
  · rw [if_neg c5] at h
    by_cases c6 : (μ0 a0 (((4 + (6 * a1)) + 0)).toNat) = 2
    · rw [if_pos c6] at h
      refine z_tin (pc := 15) (v := 2) (tgt := 52) X.1 dX5_needs_15 c6 (by decide) (by decide) rfl (by decide) ?_
      refine z_iconst (pc := 52) X.1 dX5_needs_52 ?_
      refine z_iload_n (pc := 53) X.1 hl 0 rfl rfl dX5_needs_53 ?_
      refine z_iconst (pc := 54) X.1 dX5_needs_54 ?_
      refine z_iadd (pc := 55) X.1 dX5_needs_55 ?_
      refine z_imul (pc := 56) X.1 dX5_needs_56 ?_
      exact z_iret (pc := 57) X hW (Option.some.inj h) rfl dX5_needs_57
    · rw [if_neg c6] at h
      by_cases c8 : (μ0 a0 (((4 + (6 * a1)) + 0)).toNat) = 3
      · rw [if_pos c8] at h
        refine z_tin (pc := 15) (v := 3) (tgt := 58) X.1 dX5_needs_15 c8 (by decide) (by decide) rfl (by decide) ?_
        refine z_iload_n (pc := 58) X.1 hl 0 rfl rfl dX5_needs_58 ?_
        refine z_iconst (pc := 59) X.1 dX5_needs_59 ?_
        refine z_iadd (pc := 60) X.1 dX5_needs_60 ?_
        refine z_iconst (pc := 61) X.1 dX5_needs_61 ?_
        obtain ⟨g7, h⟩ := z_guard h
        refine z_idiv (pc := 62) X.1 dX5_needs_62 ⟨g7.1, (by decide), g7.2, (by decide)⟩ ?_
        exact z_iret (pc := 63) X hW (Option.some.inj h) rfl dX5_needs_63
      · rw [if_neg c8] at h
        by_cases c9 : (μ0 a0 (((4 + (6 * a1)) + 0)).toNat) = 4
        · rw [if_pos c9] at h
          refine z_tin (pc := 15) (v := 4) (tgt := 64) X.1 dX5_needs_15 c9 (by decide) (by decide) rfl (by decide) ?_
          refine z_iload_n (pc := 64) X.1 hl 0 rfl rfl dX5_needs_64 ?_
          refine z_bipush (pc := 65) X.1 dX5_needs_65 (by decide) ?_
          refine z_iadd (pc := 67) X.1 dX5_needs_67 ?_
          exact z_iret (pc := 68) X hW (Option.some.inj h) rfl dX5_needs_68
        · rw [if_neg c9] at h
          by_cases c10 : (μ0 a0 (((4 + (6 * a1)) + 0)).toNat) = 5
          · rw [if_pos c10] at h
            refine z_tin (pc := 15) (v := 5) (tgt := 69) X.1 dX5_needs_15 c10 (by decide) (by decide) rfl (by decide) ?_
            refine z_iconst (pc := 69) X.1 dX5_needs_69 ?_
            exact z_iret (pc := 70) X hW (Option.some.inj h) rfl dX5_needs_70
          · rw [if_neg c10] at h
            refine z_tout (pc := 15) (tgt := 71) X.1 dX5_needs_15 g4 (by omega) (by decide) ?_
            refine z_iload_n (pc := 71) X.1 hl 0 rfl rfl dX5_needs_71 ?_
            refine z_iconst (pc := 72) X.1 dX5_needs_72 ?_
            refine z_iadd (pc := 73) X.1 dX5_needs_73 ?_
            exact z_iret (pc := 74) X hW (Option.some.inj h) rfl dX5_needs_74
-- X5_wears
theorem C5_wears (l : Launch) {D : va_G} {cy : ClassId × ClassId} {ad : Nat → Nat} (N : Nat) (a0 : Nat) (a1 : Int) (h_a0 : kd a0 = 2 ∧ al a0 = 52) (μ0 : mm) {res : Int} (h : M5_wears N a0 a1 μ0 = some res) : zI l yX5_wears wsX5_wears 2 D cy ad [.ref (ad a0), .int (iO a1)] μ0 res μ0 := by
  refine zI.of RX5 rfl (by decide) rfl (Nat.le_of_ble_eq_true rfl) ?_
  intro p e s m args below meth c A X hW ls hl
  have hl : lv_has ls 2 [(0, .ref (ad a0)), (1, .int (iO a1))] := hl
  unfold M5_wears at h
  refine z_aload_n (pc := 0) X.1 hl 0 rfl rfl dX5_wears_0 ?_
  refine z_iload_n (pc := 1) X.1 hl 1 rfl rfl dX5_wears_1 ?_
  refine z_iconst (pc := 2) X.1 dX5_wears_2 ?_
  refine z_callSI (pc := 3) (n := 2) (As := [.int (iO a1), .int (iO 0)]) (rest := [.ref (ad a0)]) X hW hl (C5_of l N a1 0 μ0) gX5_wears_X5_of rfl (by decide +kernel) rfl (by decide) rfl (Nat.le_of_ble_eq_true rfl) dX5_wears_3 (fun H locs hW => ?_)
  obtain ⟨g1, h⟩ := z_guard h
  refine z_iald (pc := 6) X.1 hW h_a0.1 ⟨g1.1, (z_al52 h_a0 g1.2)⟩ dX5_wears_6 ?_
  obtain ⟨g2, h⟩ := z_guard h
  by_cases c4 : (μ0 a0 (((4 + (6 * a1)) + 0)).toNat) = 2
  · rw [if_pos c4] at h
    refine z_tin (pc := 7) (v := 2) (tgt := 36) X.1 dX5_wears_7 c4 (by decide) (by decide) rfl (by decide) ?_
    refine z_aload_n (pc := 36) X.1 hl 0 rfl rfl dX5_wears_36 ?_
    refine z_iload_n (pc := 37) X.1 hl 1 rfl rfl dX5_wears_37 ?_
    obtain ⟨q3, eq3, h⟩ := z_bind h
    refine z_callSI (pc := 38) (n := 2) (As := [.ref (ad a0), .int (iO a1)]) (rest := []) X hW hl (C5_needs l N a0 a1 h_a0 μ0 eq3) gX5_wears_X5_needs rfl (by decide +kernel) rfl (by decide) rfl (Nat.le_of_ble_eq_true rfl) dX5_wears_38 (fun H locs hW => ?_)
    exact z_iret (pc := 41) X hW (Option.some.inj h) rfl dX5_wears_41
  · rw [if_neg c4] at h
    by_cases c5 : (μ0 a0 (((4 + (6 * a1)) + 0)).toNat) = 3
    · rw [if_pos c5] at h
      refine z_tin (pc := 7) (v := 3) (tgt := 42) X.1 dX5_wears_7 c5 (by decide) (by decide) rfl (by decide) ?_
      refine z_iconst (pc := 42) X.1 dX5_wears_42 ?_
      exact z_iret (pc := 43) X hW (Option.some.inj h) rfl dX5_wears_43
    · rw [if_neg c5] at h
      by_cases c8 : (μ0 a0 (((4 + (6 * a1)) + 0)).toNat) = 4
      · rw [if_pos c8] at h
        refine z_tin (pc := 7) (v := 4) (tgt := 44) X.1 dX5_wears_7 c8 (by decide) (by decide) rfl (by decide) ?_
        refine z_aload_n (pc := 44) X.1 hl 0 rfl rfl dX5_wears_44 ?_
        refine z_iload_n (pc := 45) X.1 hl 1 rfl rfl dX5_wears_45 ?_
        obtain ⟨q6, eq6, h⟩ := z_bind h
        refine z_callSI (pc := 46) (n := 2) (As := [.ref (ad a0), .int (iO a1)]) (rest := []) X hW hl (C5_needs l N a0 a1 h_a0 μ0 eq6) gX5_wears_X5_needs rfl (by decide +kernel) rfl (by decide) rfl (Nat.le_of_ble_eq_true rfl) dX5_wears_46 (fun H locs hW => ?_)
        refine z_iconst (pc := 49) X.1 dX5_wears_49 ?_
        obtain ⟨g7, h⟩ := z_guard h
        refine z_idiv (pc := 50) X.1 dX5_wears_50 ⟨g7.1, (by decide), g7.2, (by decide)⟩ ?_
        exact z_iret (pc := 51) X hW (Option.some.inj h) rfl dX5_wears_51
      · rw [if_neg c8] at h
        by_cases c9 : (μ0 a0 (((4 + (6 * a1)) + 0)).toNat) = 5
        · rw [if_pos c9] at h
          refine z_tin (pc := 7) (v := 5) (tgt := 52) X.1 dX5_wears_7 c9 (by decide) (by decide) rfl (by decide) ?_
          refine z_iconst (pc := 52) X.1 dX5_wears_52 ?_
          exact z_iret (pc := 53) X hW (Option.some.inj h) rfl dX5_wears_53
        · rw [if_neg c9] at h
          refine z_tout (pc := 7) (tgt := 54) X.1 dX5_wears_7 g2 (by omega) (by decide) ?_
          refine z_aload_n (pc := 54) X.1 hl 0 rfl rfl dX5_wears_54 ?_
          refine z_iload_n (pc := 55) X.1 hl 1 rfl rfl dX5_wears_55 ?_
          obtain ⟨q10, eq10, h⟩ := z_bind h
          refine z_callSI (pc := 56) (n := 2) (As := [.ref (ad a0), .int (iO a1)]) (rest := []) X hW hl (C5_needs l N a0 a1 h_a0 μ0 eq10) gX5_wears_X5_needs rfl (by decide +kernel) rfl (by decide) rfl (Nat.le_of_ble_eq_true rfl) dX5_wears_56 (fun H locs hW => ?_)
          refine z_iconst (pc := 59) X.1 dX5_wears_59 ?_
          obtain ⟨g11, h⟩ := z_guard h
          refine z_idiv (pc := 60) X.1 dX5_wears_60 ⟨g11.1, (by decide), g11.2, (by decide)⟩ ?_
          exact z_iret (pc := 61) X hW (Option.some.inj h) rfl dX5_wears_61
-- X5_nextBy
theorem C5_nextBy (l : Launch) {D : va_G} {cy : ClassId × ClassId} {ad : Nat → Nat} (N : Nat) (a0 : Int) (μ0 : mm) {res : Int} (h : M5_nextBy N a0 μ0 = some res) : zI l yX5_nextBy wsX5_nextBy 0 D cy ad [.int (iO a0)] μ0 res μ0 := by
  refine zI.of RX5 rfl (by decide) rfl (Nat.le_of_ble_eq_true rfl) ?_
  intro p e s m args below meth c A X hW ls hl
  have hl : lv_has ls 1 [(0, .int (iO a0))] := hl
  unfold M5_nextBy at h
  refine z_iload_n (pc := 0) X.1 hl 0 rfl rfl dX5_nextBy_0 ?_
  obtain ⟨g1, h⟩ := z_guard h
  by_cases c2 : a0 = 1
  · rw [if_pos c2] at h
    refine z_tin (pc := 1) (v := 1) (tgt := 36) X.1 dX5_nextBy_1 c2 (by decide) (by decide) rfl (by decide) ?_
    refine z_iconst (pc := 36) X.1 dX5_nextBy_36 ?_
    exact z_iret (pc := 37) X hW (Option.some.inj h) rfl dX5_nextBy_37
  · rw [if_neg c2] at h
    by_cases c3 : a0 = 2
    · rw [if_pos c3] at h
      refine z_tin (pc := 1) (v := 2) (tgt := 38) X.1 dX5_nextBy_1 c3 (by decide) (by decide) rfl (by decide) ?_
      refine z_bipush (pc := 38) X.1 dX5_nextBy_38 (by decide) ?_
      exact z_iret (pc := 40) X hW (Option.some.inj h) rfl dX5_nextBy_40
    · rw [if_neg c3] at h
      by_cases c4 : a0 = 3
      · rw [if_pos c4] at h
        refine z_tin (pc := 1) (v := 3) (tgt := 46) X.1 dX5_nextBy_1 c4 (by decide) (by decide) rfl (by decide) ?_
        refine z_bipush (pc := 46) X.1 dX5_nextBy_46 (by decide) ?_
        exact z_iret (pc := 48) X hW (Option.some.inj h) rfl dX5_nextBy_48
      · rw [if_neg c4] at h
        by_cases c5 : a0 = 4
        · rw [if_pos c5] at h
          refine z_tin (pc := 1) (v := 4) (tgt := 41) X.1 dX5_nextBy_1 c5 (by decide) (by decide) rfl (by decide) ?_
          refine z_iconst (pc := 41) X.1 dX5_nextBy_41 ?_
          exact z_iret (pc := 42) X hW (Option.some.inj h) rfl dX5_nextBy_42
        · rw [if_neg c5] at h
          by_cases c6 : a0 = 5
          · rw [if_pos c6] at h
            refine z_tin (pc := 1) (v := 5) (tgt := 43) X.1 dX5_nextBy_1 c6 (by decide) (by decide) rfl (by decide) ?_
            refine z_bipush (pc := 43) X.1 dX5_nextBy_43 (by decide) ?_
            exact z_iret (pc := 45) X hW (Option.some.inj h) rfl dX5_nextBy_45
          · rw [if_neg c6] at h
            refine z_tout (pc := 1) (tgt := 46) X.1 dX5_nextBy_1 g1 (by omega) (by decide) ?_
            refine z_bipush (pc := 46) X.1 dX5_nextBy_46 (by decide) ?_
            exact z_iret (pc := 48) X hW (Option.some.inj h) rfl dX5_nextBy_48
-- X5_lacksIn
theorem C5_lacksIn (l : Launch) {D : va_G} {cy : ClassId × ClassId} {ad : Nat → Nat} (N : Nat) (a0 : Nat) (a1 : Int) (h_a0 : kd a0 = 2 ∧ al a0 = 52) (μ0 : mm) {res : Int} (h : M5_lacksIn N a0 a1 μ0 = some res) : zI l yX5_lacksIn wsX5_lacksIn 2 D cy ad [.ref (ad a0), .int (iO a1)] μ0 res μ0 := by
  refine zI.of RX5 rfl (by decide) rfl (Nat.le_of_ble_eq_true rfl) ?_
  intro p e s m args below meth c A X hW ls hl
  have hl : lv_has ls 3 [(0, .ref (ad a0)), (1, .int (iO a1))] := hl
  unfold M5_lacksIn at h
  refine z_aload_n (pc := 0) X.1 hl 0 rfl rfl dX5_lacksIn_0 ?_
  refine z_iload_n (pc := 1) X.1 hl 1 rfl rfl dX5_lacksIn_1 ?_
  obtain ⟨q1, eq1, h⟩ := z_bind h
  refine z_callSI (pc := 2) (n := 2) (As := [.ref (ad a0), .int (iO a1)]) (rest := []) X hW hl (C5_needs l N a0 a1 h_a0 μ0 eq1) gX5_lacksIn_X5_needs rfl (by decide +kernel) rfl (by decide) rfl (Nat.le_of_ble_eq_true rfl) dX5_lacksIn_2 (fun H locs hW => ?_)
  refine z_aload_n (pc := 5) X.1 hl 0 rfl rfl dX5_lacksIn_5 ?_
  refine z_iload_n (pc := 6) X.1 hl 1 rfl rfl dX5_lacksIn_6 ?_
  refine z_iconst (pc := 7) X.1 dX5_lacksIn_7 ?_
  refine z_callSI (pc := 8) (n := 2) (As := [.int (iO a1), .int (iO 2)]) (rest := [.ref (ad a0), .int (iO q1)]) X hW hl (C5_of l N a1 2 μ0) gX5_lacksIn_X5_of rfl (by decide +kernel) rfl (by decide) rfl (Nat.le_of_ble_eq_true rfl) dX5_lacksIn_8 (fun H locs hW => ?_)
  obtain ⟨g2, h⟩ := z_guard h
  refine z_iald (pc := 11) X.1 hW h_a0.1 ⟨g2.1, (z_al52 h_a0 g2.2)⟩ dX5_lacksIn_11 ?_
  refine z_isub (pc := 12) X.1 dX5_lacksIn_12 ?_
  obtain ⟨w3, ew3, h⟩ := z_bnd h
  refine z_istore_n (pc := 13) (i := 2) X.1 [(2, .int (iO w3)), (0, .ref (ad a0)), (1, .int (iO a1))] hl ew3 rfl (by decide) rfl dX5_lacksIn_13 (fun ls hl => ?_)
  refine z_aload_n (pc := 14) X.1 hl 1 rfl rfl dX5_lacksIn_14 ?_
  refine z_iload_n (pc := 15) X.1 hl 2 rfl rfl dX5_lacksIn_15 ?_
  refine z_iconst (pc := 16) X.1 dX5_lacksIn_16 ?_
  refine z_callSI (pc := 17) (n := 2) (As := [.int (iO a1), .int (iO 3)]) (rest := [.ref (ad a0)]) X hW hl (C5_of l N a1 3 μ0) gX5_lacksIn_X5_of rfl (by decide +kernel) rfl (by decide) rfl (Nat.le_of_ble_eq_true rfl) dX5_lacksIn_17 (fun H locs hW => ?_)
  obtain ⟨g4, h⟩ := z_guard h
  refine z_iald (pc := 20) X.1 hW h_a0.1 ⟨g4.1, (z_al52 h_a0 g4.2)⟩ dX5_lacksIn_20 ?_
  obtain ⟨g5, h⟩ := z_guard h
  refine z_if_eq (pc := 21) (tgt := 28) X.1 dX5_lacksIn_21 (by decide) g5 h (fun c8 h => ?_) (fun c8 h => ?_)
  · refine z_iconst (pc := 28) X.1 dX5_lacksIn_28 ?_
    refine z_goto (pc := 29) (tgt := 33) X.1 dX5_lacksIn_29 (by decide) ?_
    exact z_iret (pc := 33) X hW (Option.some.inj h) rfl dX5_lacksIn_33
  · refine z_iload_n (pc := 24) X.1 hl 0 rfl rfl dX5_lacksIn_24 ?_
    obtain ⟨g6, h⟩ := z_guard h
    refine z_if_ge (pc := 25) (tgt := 32) X.1 dX5_lacksIn_25 (by decide) g6 h (fun c7 h => ?_) (fun c7 h => ?_)
    · refine z_iload_n (pc := 32) X.1 hl 0 rfl rfl dX5_lacksIn_32 ?_
      exact z_iret (pc := 33) X hW (Option.some.inj h) rfl dX5_lacksIn_33
    · refine z_iconst (pc := 28) X.1 dX5_lacksIn_28 ?_
      refine z_goto (pc := 29) (tgt := 33) X.1 dX5_lacksIn_29 (by decide) ?_
      exact z_iret (pc := 33) X hW (Option.some.inj h) rfl dX5_lacksIn_33
-- X5_isGone
theorem C5_isGone (l : Launch) {D : va_G} {cy : ClassId × ClassId} {ad : Nat → Nat} (N : Nat) (a0 : Nat) (a1 : Int) (h_a0 : kd a0 = 2 ∧ al a0 = 52) (μ : mm) {res : mm} (h : M5_isGone N a0 a1 μ = some res) : zV l yX5_isGone wsX5_isGone 1 D cy ad [.ref (ad a0), .int (iO a1)] μ res := by
  refine zV.of RX5 rfl (by decide) rfl (Nat.le_of_ble_eq_true rfl) ?_
  intro p e s m args below meth c A X hW ls hl
  have hl : lv_has ls 2 [(0, .ref (ad a0)), (1, .int (iO a1))] := hl
  unfold M5_isGone at h
  refine z_aload_n (pc := 0) X.1 hl 0 rfl rfl dX5_isGone_0 ?_
  refine z_iconst (pc := 1) X.1 dX5_isGone_1 ?_
  refine z_sipush (pc := 2) X.1 dX5_isGone_2 (by decide) ?_
  refine z_aload_n (pc := 5) X.1 hl 0 rfl rfl dX5_isGone_5 ?_
  refine z_iconst (pc := 6) X.1 dX5_isGone_6 ?_
  refine z_iald (pc := 7) X.1 hW h_a0.1 ⟨(by decide), (z_al52 h_a0 (by decide))⟩ dX5_isGone_7 ?_
  refine z_iload_n (pc := 8) X.1 hl 1 rfl rfl dX5_isGone_8 ?_
  refine z_iadd (pc := 9) X.1 dX5_isGone_9 ?_
  obtain ⟨q1, eq1, h⟩ := z_bind h
  refine z_callSI (pc := 10) (n := 2) (As := [.int (iO 9999), .int (iO ((μ a0 3) + a1))]) (rest := [.int (iO 3), .ref (ad a0)]) X hW hl (C5_least l N 9999 ((μ a0 3) + a1) μ eq1) gX5_isGone_X5_least rfl (by decide +kernel) rfl (by decide) rfl (Nat.le_of_ble_eq_true rfl) dX5_isGone_10 (fun H locs hW => ?_)
  obtain ⟨μ2, eμ2, h⟩ := z_bnd h
  refine z_iast (pc := 13) X.1 hW h_a0.1 ⟨(by decide), (z_al52 h_a0 (by decide))⟩ dX5_isGone_13 (fun H locs hW => ?_)
  replace hW : zW D cy ad A s.heap μ2 H locs := by rw [eμ2]; exact hW
  exact z_vret (pc := 14) X hW (Option.some.inj h) dX5_isGone_14
-- X5_meets
section
variable {p : Program} {l : Launch} {e : Env} {s : State} {m : MethodId} {args : Array Value} {below : List Frame} {meth : Method} {c : Code} {D : va_G} {cy : ClassId × ClassId} {ad : Nat → Nat} {A : Nat → Prop} {res : mm}
theorem CJ5_meets_88 (X : zX p s m args meth c cX5_meets RX5 wsX5_meets 5 D cy ad none A) (N : Nat) : ∀ (r0 : Nat) (x1 : Int) (hk_r0 : kd r0 = 2 ∧ al r0 = 52) (μ : mm), J5_meets_88 N r0 x1 μ = some res → ∀ (H : Heap) (locs : List Loc) (ls : Array Slot), zW D cy ad A s.heap μ H locs → lv_has ls 5 [(0, .ref (ad r0)), (1, .int (iO x1))] → W p l e (rmD 3) s m args below meth c H locs 0 0 (MQ below (zQv D cy ad A res) args s 0 0 A) (F0 m 88 ls []) := by
  intro r0 x1 hk_r0 μ h H locs ls hW hl
  rw [J5_meets_88] at h
  refine z_aload_n (pc := 88) X.1 hl 0 rfl rfl dX5_meets_88 ?_
  refine z_iload_n (pc := 89) X.1 hl 1 rfl rfl dX5_meets_89 ?_
  refine z_iconst (pc := 90) X.1 dX5_meets_90 ?_
  refine z_callSI (pc := 91) (n := 2) (As := [.int (iO x1), .int (iO 3)]) (rest := [.ref (ad r0)]) X hW hl (C5_of l N x1 3 μ) gX5_meets_X5_of rfl (by decide +kernel) rfl (by decide) rfl (Nat.le_of_ble_eq_true rfl) dX5_meets_91 (fun H locs hW => ?_)
  refine z_aload_n (pc := 94) X.1 hl 0 rfl rfl dX5_meets_94 ?_
  refine z_iload_n (pc := 95) X.1 hl 1 rfl rfl dX5_meets_95 ?_
  refine z_iconst (pc := 96) X.1 dX5_meets_96 ?_
  refine z_callSI (pc := 97) (n := 2) (As := [.int (iO x1), .int (iO 0)]) (rest := [.ref (ad r0), .int (iO ((4 + (6 * x1)) + 3)), .ref (ad r0)]) X hW hl (C5_of l N x1 0 μ) gX5_meets_X5_of rfl (by decide +kernel) rfl (by decide) rfl (Nat.le_of_ble_eq_true rfl) dX5_meets_97 (fun H locs hW => ?_)
  obtain ⟨g11, h⟩ := z_guard h
  refine z_iald (pc := 100) X.1 hW hk_r0.1 ⟨g11.1, (z_al52 hk_r0 g11.2)⟩ dX5_meets_100 ?_
  obtain ⟨q12, eq12, h⟩ := z_bind h
  refine z_callSI (pc := 101) (n := 1) (As := [.int (iO (μ r0 (((4 + (6 * x1)) + 0)).toNat))]) (rest := [.int (iO ((4 + (6 * x1)) + 3)), .ref (ad r0)]) X hW hl (C5_nextBy l N (μ r0 (((4 + (6 * x1)) + 0)).toNat) μ eq12) gX5_meets_X5_nextBy rfl (by decide +kernel) rfl (by decide) rfl (Nat.le_of_ble_eq_true rfl) dX5_meets_101 (fun H locs hW => ?_)
  obtain ⟨g13, h⟩ := z_guard h
  obtain ⟨μ14, eμ14, h⟩ := z_bnd h
  refine z_iast (pc := 104) X.1 hW hk_r0.1 ⟨g13.1, (z_al52 hk_r0 g13.2)⟩ dX5_meets_104 (fun H locs hW => ?_)
  replace hW : zW D cy ad A s.heap μ14 H locs := by rw [eμ14]; exact hW
  exact z_vret (pc := 105) X hW (Option.some.inj h) dX5_meets_105
theorem CJ5_meets_31 (X : zX p s m args meth c cX5_meets RX5 wsX5_meets 5 D cy ad none A) (N : Nat) : ∀ (r0 : Nat) (x1 : Int) (x2 : Int) (y0 : Int) (y1 : Int) (hk_r0 : kd r0 = 2 ∧ al r0 = 52) (μ : mm), J5_meets_31 N r0 x1 x2 y0 y1 μ = some res → ∀ (H : Heap) (locs : List Loc) (ls : Array Slot), zW D cy ad A s.heap μ H locs → lv_has ls 5 [(0, .ref (ad r0)), (1, .int (iO x1)), (2, .int (iO x2))] → W p l e (rmD 3) s m args below meth c H locs 0 0 (MQ below (zQv D cy ad A res) args s 0 0 A) (F0 m 31 ls [.int (iO y0), .int (iO y1)]) := by
  intro r0 x1 x2 y0 y1 hk_r0 μ h H locs ls hW hl
  rw [J5_meets_31] at h
  refine z_callSI (pc := 31) (n := 2) (As := [.int (iO y1), .int (iO y0)]) (rest := []) X hW hl (C5_of l N y1 y0 μ) gX5_meets_X5_of rfl (by decide +kernel) rfl (by decide) rfl (Nat.le_of_ble_eq_true rfl) dX5_meets_31 (fun H locs hW => ?_)
  obtain ⟨w5, ew5, h⟩ := z_bnd h
  refine z_istore_n (pc := 34) (i := 3) X.1 [(3, .int (iO w5)), (0, .ref (ad r0)), (1, .int (iO x1)), (2, .int (iO x2))] hl ew5 rfl (by decide) rfl dX5_meets_34 (fun ls hl => ?_)
  refine z_aload_n (pc := 35) X.1 hl 1 rfl rfl dX5_meets_35 ?_
  refine z_iload_n (pc := 36) X.1 hl 0 rfl rfl dX5_meets_36 ?_
  refine z_sipush (pc := 37) X.1 dX5_meets_37 (by decide) ?_
  refine z_aload_n (pc := 40) X.1 hl 1 rfl rfl dX5_meets_40 ?_
  refine z_iload_n (pc := 41) X.1 hl 0 rfl rfl dX5_meets_41 ?_
  obtain ⟨g6, h⟩ := z_guard h
  refine z_iald (pc := 42) X.1 hW hk_r0.1 ⟨g6.1, (z_al52 hk_r0 g6.2)⟩ dX5_meets_42 ?_
  refine z_iconst (pc := 43) X.1 dX5_meets_43 ?_
  refine z_iadd (pc := 44) X.1 dX5_meets_44 ?_
  obtain ⟨q7, eq7, h⟩ := z_bind h
  refine z_callSI (pc := 45) (n := 2) (As := [.int (iO 999), .int (iO ((μ r0 (w5).toNat) + 1))]) (rest := [.int (iO w5), .ref (ad r0)]) X hW hl (C5_least l N 999 ((μ r0 (w5).toNat) + 1) μ eq7) gX5_meets_X5_least rfl (by decide +kernel) rfl (by decide) rfl (Nat.le_of_ble_eq_true rfl) dX5_meets_45 (fun H locs hW => ?_)
  obtain ⟨g8, h⟩ := z_guard h
  obtain ⟨μ9, eμ9, h⟩ := z_bnd h
  refine z_iast (pc := 48) X.1 hW hk_r0.1 ⟨g8.1, (z_al52 hk_r0 g8.2)⟩ dX5_meets_48 (fun H locs hW => ?_)
  replace hW : zW D cy ad A s.heap μ9 H locs := by rw [eμ9]; exact hW
  refine z_iload_n (pc := 49) X.1 hl 3 rfl rfl dX5_meets_49 ?_
  obtain ⟨g10, h⟩ := z_guard h
  refine z_if_eq (pc := 50) (tgt := 88) X.1 dX5_meets_50 (by decide) g10 h (fun c22 h => ?_) (fun c22 h => ?_)
  · exact CJ5_meets_88 X N r0 x1 hk_r0 μ9 h _ _ ls hW (lv_sub hl [1, 2] rfl)
  · refine z_aload_n (pc := 53) X.1 hl 1 rfl rfl dX5_meets_53 ?_
    refine z_iload_n (pc := 54) X.1 hl 2 rfl rfl dX5_meets_54 ?_
    obtain ⟨q15, eq15, h⟩ := z_bind h
    refine z_callSI (pc := 55) (n := 2) (As := [.ref (ad r0), .int (iO x1)]) (rest := []) X hW hl (C5_wears l N r0 x1 hk_r0 μ9 eq15) gX5_meets_X5_wears rfl (by decide +kernel) rfl (by decide) rfl (Nat.le_of_ble_eq_true rfl) dX5_meets_55 (fun H locs hW => ?_)
    refine z_aload_n (pc := 58) X.1 hl 1 rfl rfl dX5_meets_58 ?_
    refine z_iload_n (pc := 59) X.1 hl 2 rfl rfl dX5_meets_59 ?_
    refine z_iconst (pc := 60) X.1 dX5_meets_60 ?_
    refine z_callSI (pc := 61) (n := 2) (As := [.int (iO x1), .int (iO 2)]) (rest := [.ref (ad r0), .int (iO q15)]) X hW hl (C5_of l N x1 2 μ9) gX5_meets_X5_of rfl (by decide +kernel) rfl (by decide) rfl (Nat.le_of_ble_eq_true rfl) dX5_meets_61 (fun H locs hW => ?_)
    obtain ⟨g16, h⟩ := z_guard h
    refine z_iald (pc := 64) X.1 hW hk_r0.1 ⟨g16.1, (z_al52 hk_r0 g16.2)⟩ dX5_meets_64 ?_
    obtain ⟨q17, eq17, h⟩ := z_bind h
    refine z_callSI (pc := 65) (n := 2) (As := [.int (iO q15), .int (iO (μ9 r0 (((4 + (6 * x1)) + 2)).toNat))]) (rest := []) X hW hl (C5_least l N q15 (μ9 r0 (((4 + (6 * x1)) + 2)).toNat) μ9 eq17) gX5_meets_X5_least rfl (by decide +kernel) rfl (by decide) rfl (Nat.le_of_ble_eq_true rfl) dX5_meets_65 (fun H locs hW => ?_)
    refine z_istore (pc := 68) (i := 4) X.1 [(4, .int (iO q17)), (3, .int (iO w5)), (0, .ref (ad r0)), (1, .int (iO x1)), (2, .int (iO x2))] hl rfl (by decide) rfl dX5_meets_68 (fun ls hl => ?_)
    refine z_aload_n (pc := 70) X.1 hl 2 rfl rfl dX5_meets_70 ?_
    refine z_iload_n (pc := 71) X.1 hl 3 rfl rfl dX5_meets_71 ?_
    refine z_iconst (pc := 72) X.1 dX5_meets_72 ?_
    refine z_callSI (pc := 73) (n := 2) (As := [.int (iO x1), .int (iO 2)]) (rest := [.ref (ad r0)]) X hW hl (C5_of l N x1 2 μ9) gX5_meets_X5_of rfl (by decide +kernel) rfl (by decide) rfl (Nat.le_of_ble_eq_true rfl) dX5_meets_73 (fun H locs hW => ?_)
    refine z_dup2 (pc := 76) X.1 dX5_meets_76 rfl rfl ?_
    obtain ⟨g18, h⟩ := z_guard h
    refine z_iald (pc := 77) X.1 hW hk_r0.1 ⟨g18.1, (z_al52 hk_r0 g18.2)⟩ dX5_meets_77 ?_
    refine z_iload (pc := 78) X.1 hl 0 rfl dX5_meets_78 ?_
    refine z_isub (pc := 80) X.1 dX5_meets_80 ?_
    obtain ⟨g19, h⟩ := z_guard h
    obtain ⟨μ20, eμ20, h⟩ := z_bnd h
    refine z_iast (pc := 81) X.1 hW hk_r0.1 ⟨g19.1, (z_al52 hk_r0 g19.2)⟩ dX5_meets_81 (fun H locs hW => ?_)
    replace hW : zW D cy ad A s.heap μ20 H locs := by rw [eμ20]; exact hW
    refine z_aload_n (pc := 82) X.1 hl 2 rfl rfl dX5_meets_82 ?_
    refine z_iload (pc := 83) X.1 hl 0 rfl dX5_meets_83 ?_
    obtain ⟨q21, eq21, h⟩ := z_bind h
    refine z_callSV (pc := 85) (n := 2) (As := [.ref (ad r0), .int (iO q17)]) (rest := []) X hW hl (C5_isGone l N r0 q17 hk_r0 μ20 eq21) gX5_meets_X5_isGone rfl (by decide +kernel) rfl (by decide) rfl (Nat.le_of_ble_eq_true rfl) dX5_meets_85 (fun H locs hW => ?_)
    exact CJ5_meets_88 X N r0 x1 hk_r0 q21 h _ _ ls hW (lv_sub hl [2, 3] rfl)
theorem CJ5_meets_20 (X : zX p s m args meth c cX5_meets RX5 wsX5_meets 5 D cy ad none A) (N : Nat) : ∀ (r0 : Nat) (x1 : Int) (y0 : Int) (hk_r0 : kd r0 = 2 ∧ al r0 = 52) (μ : mm), J5_meets_20 N r0 x1 y0 μ = some res → ∀ (H : Heap) (locs : List Loc) (ls : Array Slot), zW D cy ad A s.heap μ H locs → lv_has ls 5 [(0, .ref (ad r0)), (1, .int (iO x1))] → W p l e (rmD 3) s m args below meth c H locs 0 0 (MQ below (zQv D cy ad A res) args s 0 0 A) (F0 m 20 ls [.int (iO y0)]) := by
  intro r0 x1 y0 hk_r0 μ h H locs ls hW hl
  rw [J5_meets_20] at h
  refine z_istore_n (pc := 20) (i := 2) X.1 [(2, .int (iO y0)), (0, .ref (ad r0)), (1, .int (iO x1))] hl rfl rfl (by decide) rfl dX5_meets_20 (fun ls hl => ?_)
  refine z_iload_n (pc := 21) X.1 hl 2 rfl rfl dX5_meets_21 ?_
  refine z_iload_n (pc := 22) X.1 hl 0 rfl rfl dX5_meets_22 ?_
  obtain ⟨g4, h⟩ := z_guard h
  refine z_if_eq (pc := 23) (tgt := 30) X.1 dX5_meets_23 (by decide) g4 h (fun c23 h => ?_) (fun c23 h => ?_)
  · refine z_iconst (pc := 30) X.1 dX5_meets_30 ?_
    exact CJ5_meets_31 X N r0 x1 y0 5 x1 hk_r0 μ h _ _ ls hW (lv_sub hl [1, 2, 0] rfl)
  · refine z_iconst (pc := 26) X.1 dX5_meets_26 ?_
    refine z_goto (pc := 27) (tgt := 31) X.1 dX5_meets_27 (by decide) ?_
    exact CJ5_meets_31 X N r0 x1 y0 4 x1 hk_r0 μ h _ _ ls hW (lv_sub hl [1, 2, 0] rfl)
end
theorem C5_meets (l : Launch) {D : va_G} {cy : ClassId × ClassId} {ad : Nat → Nat} (N : Nat) (a0 : Nat) (a1 : Int) (h_a0 : kd a0 = 2 ∧ al a0 = 52) (μ : mm) {res : mm} (h : M5_meets N a0 a1 μ = some res) : zV l yX5_meets wsX5_meets 3 D cy ad [.ref (ad a0), .int (iO a1)] μ res := by
  refine zV.of RX5 rfl (by decide) rfl (Nat.le_of_ble_eq_true rfl) ?_
  intro p e s m args below meth c A X hW ls hl
  have hl : lv_has ls 5 [(0, .ref (ad a0)), (1, .int (iO a1))] := hl
  unfold M5_meets at h
  refine z_aload_n (pc := 0) X.1 hl 0 rfl rfl dX5_meets_0 ?_
  refine z_iload_n (pc := 1) X.1 hl 1 rfl rfl dX5_meets_1 ?_
  refine z_iconst (pc := 2) X.1 dX5_meets_2 ?_
  refine z_callSI (pc := 3) (n := 2) (As := [.int (iO a1), .int (iO 2)]) (rest := [.ref (ad a0)]) X hW hl (C5_of l N a1 2 μ) gX5_meets_X5_of rfl (by decide +kernel) rfl (by decide) rfl (Nat.le_of_ble_eq_true rfl) dX5_meets_3 (fun H locs hW => ?_)
  obtain ⟨g1, h⟩ := z_guard h
  refine z_iald (pc := 6) X.1 hW h_a0.1 ⟨g1.1, (z_al52 h_a0 g1.2)⟩ dX5_meets_6 ?_
  refine z_aload_n (pc := 7) X.1 hl 0 rfl rfl dX5_meets_7 ?_
  refine z_iload_n (pc := 8) X.1 hl 1 rfl rfl dX5_meets_8 ?_
  obtain ⟨q2, eq2, h⟩ := z_bind h
  refine z_callSI (pc := 9) (n := 2) (As := [.ref (ad a0), .int (iO a1)]) (rest := [.int (iO (μ a0 (((4 + (6 * a1)) + 2)).toNat))]) X hW hl (C5_needs l N a0 a1 h_a0 μ eq2) gX5_meets_X5_needs rfl (by decide +kernel) rfl (by decide) rfl (Nat.le_of_ble_eq_true rfl) dX5_meets_9 (fun H locs hW => ?_)
  obtain ⟨g3, h⟩ := z_guard h
  refine z_icmp_lt (pc := 12) (tgt := 19) X.1 dX5_meets_12 (by decide) ⟨g3.1, g3.2⟩ h (fun c24 h => ?_) (fun c24 h => ?_)
  · refine z_iconst (pc := 19) X.1 dX5_meets_19 ?_
    exact CJ5_meets_20 X N a0 a1 0 h_a0 μ h _ _ ls hW (lv_sub hl [0, 1] rfl)
  · refine z_iconst (pc := 15) X.1 dX5_meets_15 ?_
    refine z_goto (pc := 16) (tgt := 20) X.1 dX5_meets_16 (by decide) ?_
    exact CJ5_meets_20 X N a0 a1 1 h_a0 μ h _ _ ls hW (lv_sub hl [0, 1] rfl)
-- X5_day
section
variable {p : Program} {l : Launch} {e : Env} {s : State} {m : MethodId} {args : Array Value} {below : List Frame} {meth : Method} {c : Code} {D : va_G} {cy : ClassId × ClassId} {ad : Nat → Nat} {A : Nat → Prop} {res : mm}
theorem CJ5_day_55 (X : zX p s m args meth c cX5_day RX5 wsX5_day 2 D cy ad none A) (N : Nat) (rec9 : Nat → Int → mm → Option mm) (hrec9 : ∀ (r0 : Nat) (x1 : Int) (_ : kd r0 = 2 ∧ al r0 = 52) (μ : mm), rec9 r0 x1 μ = some res → ∀ (H : Heap) (locs : List Loc) (ls : Array Slot), zW D cy ad A s.heap μ H locs → lv_has ls 2 [(0, .ref (ad r0)), (1, .int (iO x1))] → W p l e (rmD 4) s m args below meth c H locs 0 0 (MQ below (zQv D cy ad A res) args s 0 0 A) (F0 m 9 ls [])) : ∀ (r0 : Nat) (x1 : Int) (hk_r0 : kd r0 = 2 ∧ al r0 = 52) (μ : mm), J5_day_55 N rec9 r0 x1 μ = some res → ∀ (H : Heap) (locs : List Loc) (ls : Array Slot), zW D cy ad A s.heap μ H locs → lv_has ls 2 [(0, .ref (ad r0)), (1, .int (iO x1))] → W p l e (rmD 4) s m args below meth c H locs 0 0 (MQ below (zQv D cy ad A res) args s 0 0 A) (F0 m 55 ls []) := by
  intro r0 x1 hk_r0 μ h H locs ls hW hl
  rw [J5_day_55] at h
  refine z_iinc (pc := 55) (i := 1) X.1 [(1, .int (iO (x1 + 1))), (0, .ref (ad r0))] hl 1 rfl rfl (by decide) rfl dX5_day_55 (fun ls hl => ?_)
  refine z_goto (pc := 58) (tgt := 9) X.1 dX5_day_58 (by decide) ?_
  exact hrec9 r0 (x1 + 1) hk_r0 μ h _ _ ls hW (lv_sub hl [1, 0] rfl)
theorem CL5_day_9 (X : zX p s m args meth c cX5_day RX5 wsX5_day 2 D cy ad none A) (N : Nat) : ∀ (k : Nat) (r0 : Nat) (x1 : Int) (hk_r0 : kd r0 = 2 ∧ al r0 = 52) (μ : mm), L5_day_9 N k r0 x1 μ = some res → ∀ (H : Heap) (locs : List Loc) (ls : Array Slot), zW D cy ad A s.heap μ H locs → lv_has ls 2 [(0, .ref (ad r0)), (1, .int (iO x1))] → W p l e (rmD 4) s m args below meth c H locs 0 0 (MQ below (zQv D cy ad A res) args s 0 0 A) (F0 m 9 ls []) := by
  intro k
  induction k with
  | zero =>
    intro r0 x1 hk_r0 μ h H locs ls hW hl
    exact absurd h (by rw [L5_day_9]; exact fun z => by cases z)
  | succ k ih =>
    intro r0 x1 hk_r0 μ h H locs ls hW hl
    rw [L5_day_9] at h
    refine z_iload_n (pc := 9) X.1 hl 1 rfl rfl dX5_day_9 ?_
    refine z_aload_n (pc := 10) X.1 hl 0 rfl rfl dX5_day_10 ?_
    refine z_iconst (pc := 11) X.1 dX5_day_11 ?_
    refine z_iald (pc := 12) X.1 hW hk_r0.1 ⟨(by decide), (z_al52 hk_r0 (by decide))⟩ dX5_day_12 ?_
    obtain ⟨g2, h⟩ := z_guard h
    refine z_icmp_ge (pc := 13) (tgt := 61) X.1 dX5_day_13 (by decide) ⟨g2.1, g2.2⟩ h (fun c13 h => ?_) (fun c13 h => ?_)
    · exact z_vret (pc := 61) X hW (Option.some.inj h) dX5_day_61
    · refine z_aload_n (pc := 16) X.1 hl 0 rfl rfl dX5_day_16 ?_
      refine z_iload_n (pc := 17) X.1 hl 1 rfl rfl dX5_day_17 ?_
      refine z_iconst (pc := 18) X.1 dX5_day_18 ?_
      refine z_callSI (pc := 19) (n := 2) (As := [.int (iO x1), .int (iO 3)]) (rest := [.ref (ad r0)]) X hW hl (C5_of l N x1 3 μ) gX5_day_X5_of rfl (by decide +kernel) rfl (by decide) rfl (Nat.le_of_ble_eq_true rfl) dX5_day_19 (fun H locs hW => ?_)
      obtain ⟨g3, h⟩ := z_guard h
      refine z_iald (pc := 22) X.1 hW hk_r0.1 ⟨g3.1, (z_al52 hk_r0 g3.2)⟩ dX5_day_22 ?_
      obtain ⟨g4, h⟩ := z_guard h
      refine z_if_ne (pc := 23) (tgt := 29) X.1 dX5_day_23 (by decide) g4 h (fun c12 h => ?_) (fun c12 h => ?_)
      · refine z_aload_n (pc := 29) X.1 hl 0 rfl rfl dX5_day_29 ?_
        refine z_iload_n (pc := 30) X.1 hl 1 rfl rfl dX5_day_30 ?_
        refine z_iconst (pc := 31) X.1 dX5_day_31 ?_
        refine z_callSI (pc := 32) (n := 2) (As := [.int (iO x1), .int (iO 3)]) (rest := [.ref (ad r0)]) X hW hl (C5_of l N x1 3 μ) gX5_day_X5_of rfl (by decide +kernel) rfl (by decide) rfl (Nat.le_of_ble_eq_true rfl) dX5_day_32 (fun H locs hW => ?_)
        refine z_dup2 (pc := 35) X.1 dX5_day_35 rfl rfl ?_
        obtain ⟨g5, h⟩ := z_guard h
        refine z_iald (pc := 36) X.1 hW hk_r0.1 ⟨g5.1, (z_al52 hk_r0 g5.2)⟩ dX5_day_36 ?_
        refine z_iconst (pc := 37) X.1 dX5_day_37 ?_
        refine z_isub (pc := 38) X.1 dX5_day_38 ?_
        obtain ⟨g6, h⟩ := z_guard h
        obtain ⟨μ7, eμ7, h⟩ := z_bnd h
        refine z_iast (pc := 39) X.1 hW hk_r0.1 ⟨g6.1, (z_al52 hk_r0 g6.2)⟩ dX5_day_39 (fun H locs hW => ?_)
        replace hW : zW D cy ad A s.heap μ7 H locs := by rw [eμ7]; exact hW
        refine z_aload_n (pc := 40) X.1 hl 0 rfl rfl dX5_day_40 ?_
        refine z_iload_n (pc := 41) X.1 hl 1 rfl rfl dX5_day_41 ?_
        refine z_iconst (pc := 42) X.1 dX5_day_42 ?_
        refine z_callSI (pc := 43) (n := 2) (As := [.int (iO x1), .int (iO 3)]) (rest := [.ref (ad r0)]) X hW hl (C5_of l N x1 3 μ7) gX5_day_X5_of rfl (by decide +kernel) rfl (by decide) rfl (Nat.le_of_ble_eq_true rfl) dX5_day_43 (fun H locs hW => ?_)
        obtain ⟨g8, h⟩ := z_guard h
        refine z_iald (pc := 46) X.1 hW hk_r0.1 ⟨g8.1, (z_al52 hk_r0 g8.2)⟩ dX5_day_46 ?_
        obtain ⟨g9, h⟩ := z_guard h
        refine z_if_ne (pc := 47) (tgt := 55) X.1 dX5_day_47 (by decide) g9 h (fun c11 h => ?_) (fun c11 h => ?_)
        · exact CJ5_day_55 X N (L5_day_9 N k) ih r0 x1 hk_r0 μ7 h _ _ ls hW (lv_sub hl [0, 1] rfl)
        · refine z_aload_n (pc := 50) X.1 hl 0 rfl rfl dX5_day_50 ?_
          refine z_iload_n (pc := 51) X.1 hl 1 rfl rfl dX5_day_51 ?_
          obtain ⟨q10, eq10, h⟩ := z_bind h
          refine z_callSV (pc := 52) (n := 2) (As := [.ref (ad r0), .int (iO x1)]) (rest := []) X hW hl (C5_meets l N r0 x1 hk_r0 μ7 eq10) gX5_day_X5_meets rfl (by decide +kernel) rfl (by decide) rfl (Nat.le_of_ble_eq_true rfl) dX5_day_52 (fun H locs hW => ?_)
          exact CJ5_day_55 X N (L5_day_9 N k) ih r0 x1 hk_r0 q10 h _ _ ls hW (lv_sub hl [0, 1] rfl)
      · refine z_goto (pc := 26) (tgt := 55) X.1 dX5_day_26 (by decide) ?_
        exact CJ5_day_55 X N (L5_day_9 N k) ih r0 x1 hk_r0 μ h _ _ ls hW (lv_sub hl [0, 1] rfl)
end
theorem C5_day (l : Launch) {D : va_G} {cy : ClassId × ClassId} {ad : Nat → Nat} (N : Nat) (a0 : Nat) (h_a0 : kd a0 = 2 ∧ al a0 = 52) (μ : mm) {res : mm} (h : M5_day N a0 μ = some res) : zV l yX5_day wsX5_day 4 D cy ad [.ref (ad a0)] μ res := by
  refine zV.of RX5 rfl (by decide) rfl (Nat.le_of_ble_eq_true rfl) ?_
  intro p e s m args below meth c A X hW ls hl
  have hl : lv_has ls 2 [(0, .ref (ad a0))] := hl
  unfold M5_day at h
  refine z_aload_n (pc := 0) X.1 hl 0 rfl rfl dX5_day_0 ?_
  refine z_iconst (pc := 1) X.1 dX5_day_1 ?_
  refine z_dup2 (pc := 2) X.1 dX5_day_2 rfl rfl ?_
  refine z_iald (pc := 3) X.1 hW h_a0.1 ⟨(by decide), (z_al52 h_a0 (by decide))⟩ dX5_day_3 ?_
  refine z_iconst (pc := 4) X.1 dX5_day_4 ?_
  refine z_iadd (pc := 5) X.1 dX5_day_5 ?_
  obtain ⟨μ1, eμ1, h⟩ := z_bnd h
  refine z_iast (pc := 6) X.1 hW h_a0.1 ⟨(by decide), (z_al52 h_a0 (by decide))⟩ dX5_day_6 (fun H locs hW => ?_)
  replace hW : zW D cy ad A s.heap μ1 H locs := by rw [eμ1]; exact hW
  refine z_iconst (pc := 7) X.1 dX5_day_7 ?_
  refine z_istore_n (pc := 8) (i := 1) X.1 [(1, .int (iO 0)), (0, .ref (ad a0))] hl rfl rfl (by decide) rfl dX5_day_8 (fun ls hl => ?_)
  exact CL5_day_9 X N N a0 0 h_a0 μ1 h _ _ ls hW (lv_sub hl [1, 0] rfl)
-- X5_daysOn
section
variable {p : Program} {l : Launch} {e : Env} {s : State} {m : MethodId} {args : Array Value} {below : List Frame} {meth : Method} {c : Code} {D : va_G} {cy : ClassId × ClassId} {ad : Nat → Nat} {A : Nat → Prop} {res : mm}
theorem CL5_daysOn_2 (X : zX p s m args meth c cX5_daysOn RX5 wsX5_daysOn 3 D cy ad none A) (N : Nat) : ∀ (k : Nat) (r0 : Nat) (x1 : Int) (x2 : Int) (hk_r0 : kd r0 = 2 ∧ al r0 = 52) (μ : mm), L5_daysOn_2 N k r0 x1 x2 μ = some res → ∀ (H : Heap) (locs : List Loc) (ls : Array Slot), zW D cy ad A s.heap μ H locs → lv_has ls 3 [(0, .ref (ad r0)), (1, .int (iO x1)), (2, .int (iO x2))] → W p l e (rmD 5) s m args below meth c H locs 0 0 (MQ below (zQv D cy ad A res) args s 0 0 A) (F0 m 2 ls []) := by
  intro k
  induction k with
  | zero =>
    intro r0 x1 x2 hk_r0 μ h H locs ls hW hl
    exact absurd h (by rw [L5_daysOn_2]; exact fun z => by cases z)
  | succ k ih =>
    intro r0 x1 x2 hk_r0 μ h H locs ls hW hl
    rw [L5_daysOn_2] at h
    refine z_iload_n (pc := 2) X.1 hl 2 rfl rfl dX5_daysOn_2 ?_
    refine z_iload_n (pc := 3) X.1 hl 1 rfl rfl dX5_daysOn_3 ?_
    obtain ⟨g1, h⟩ := z_guard h
    refine z_icmp_ge (pc := 4) (tgt := 17) X.1 dX5_daysOn_4 (by decide) ⟨g1.1, g1.2⟩ h (fun c3 h => ?_) (fun c3 h => ?_)
    · exact z_vret (pc := 17) X hW (Option.some.inj h) dX5_daysOn_17
    · refine z_aload_n (pc := 7) X.1 hl 0 rfl rfl dX5_daysOn_7 ?_
      obtain ⟨q2, eq2, h⟩ := z_bind h
      refine z_callSV (pc := 8) (n := 1) (As := [.ref (ad r0)]) (rest := []) X hW hl (C5_day l N r0 hk_r0 μ eq2) gX5_daysOn_X5_day rfl (by decide +kernel) rfl (by decide) rfl (Nat.le_of_ble_eq_true rfl) dX5_daysOn_8 (fun H locs hW => ?_)
      refine z_iinc (pc := 11) (i := 2) X.1 [(2, .int (iO (x2 + 1))), (0, .ref (ad r0)), (1, .int (iO x1))] hl 2 rfl rfl (by decide) rfl dX5_daysOn_11 (fun ls hl => ?_)
      refine z_goto (pc := 14) (tgt := 2) X.1 dX5_daysOn_14 (by decide) ?_
      exact ih r0 x1 (x2 + 1) hk_r0 q2 h _ _ ls hW (lv_sub hl [1, 2, 0] rfl)
end
theorem C5_daysOn (l : Launch) {D : va_G} {cy : ClassId × ClassId} {ad : Nat → Nat} (N : Nat) (a0 : Nat) (a1 : Int) (h_a0 : kd a0 = 2 ∧ al a0 = 52) (μ : mm) {res : mm} (h : M5_daysOn N a0 a1 μ = some res) : zV l yX5_daysOn wsX5_daysOn 5 D cy ad [.ref (ad a0), .int (iO a1)] μ res := by
  refine zV.of RX5 rfl (by decide) rfl (Nat.le_of_ble_eq_true rfl) ?_
  intro p e s m args below meth c A X hW ls hl
  have hl : lv_has ls 3 [(0, .ref (ad a0)), (1, .int (iO a1))] := hl
  unfold M5_daysOn at h
  refine z_iconst (pc := 0) X.1 dX5_daysOn_0 ?_
  refine z_istore_n (pc := 1) (i := 2) X.1 [(2, .int (iO 0)), (0, .ref (ad a0)), (1, .int (iO a1))] hl rfl rfl (by decide) rfl dX5_daysOn_1 (fun ls hl => ?_)
  exact CL5_daysOn_2 X N N a0 a1 0 h_a0 μ h _ _ ls hW (lv_sub hl [1, 2, 0] rfl)
-- X5_allOf
section
variable {p : Program} {l : Launch} {e : Env} {s : State} {m : MethodId} {args : Array Value} {below : List Frame} {meth : Method} {c : Code} {D : va_G} {cy : ClassId × ClassId} {ad : Nat → Nat} {A : Nat → Prop} {res : Int} {μ0 : mm}
theorem CL5_allOf_4 (X : zX p s m args meth c cX5_allOf RX5 wsX5_allOf 4 D cy ad (some .int) A) (N : Nat) : ∀ (k : Nat) (r0 : Nat) (x1 : Int) (x2 : Int) (x3 : Int) (hk_r0 : kd r0 = 2 ∧ al r0 = 52) (μ : mm) (_ : μ = μ0), L5_allOf_4 N k r0 x1 x2 x3 μ = some res → ∀ (H : Heap) (locs : List Loc) (ls : Array Slot), zW D cy ad A s.heap μ H locs → lv_has ls 4 [(0, .ref (ad r0)), (1, .int (iO x1)), (2, .int (iO x2)), (3, .int (iO x3))] → W p l e (rmD 1) s m args below meth c H locs 0 0 (MQ below (zQi D cy ad A res μ0) args s 0 0 A) (F0 m 4 ls []) := by
  intro k
  induction k with
  | zero =>
    intro r0 x1 x2 x3 hk_r0 μ em h H locs ls hW hl
    exact absurd h (by rw [L5_allOf_4]; exact fun z => by cases z)
  | succ k ih =>
    intro r0 x1 x2 x3 hk_r0 μ em h H locs ls hW hl
    rw [L5_allOf_4] at h
    refine z_iload_n (pc := 4) X.1 hl 3 rfl rfl dX5_allOf_4 ?_
    refine z_aload_n (pc := 5) X.1 hl 0 rfl rfl dX5_allOf_5 ?_
    refine z_iconst (pc := 6) X.1 dX5_allOf_6 ?_
    refine z_iald (pc := 7) X.1 hW hk_r0.1 ⟨(by decide), (z_al52 hk_r0 (by decide))⟩ dX5_allOf_7 ?_
    obtain ⟨g1, h⟩ := z_guard h
    refine z_icmp_ge (pc := 8) (tgt := 27) X.1 dX5_allOf_8 (by decide) ⟨g1.1, g1.2⟩ h (fun c4 h => ?_) (fun c4 h => ?_)
    · refine z_iload_n (pc := 27) X.1 hl 2 rfl rfl dX5_allOf_27 ?_
      exact z_iret (pc := 28) X hW (Option.some.inj h) em dX5_allOf_28
    · refine z_iload_n (pc := 11) X.1 hl 2 rfl rfl dX5_allOf_11 ?_
      refine z_aload_n (pc := 12) X.1 hl 0 rfl rfl dX5_allOf_12 ?_
      refine z_iload_n (pc := 13) X.1 hl 3 rfl rfl dX5_allOf_13 ?_
      refine z_iload_n (pc := 14) X.1 hl 1 rfl rfl dX5_allOf_14 ?_
      refine z_callSI (pc := 15) (n := 2) (As := [.int (iO x3), .int (iO x1)]) (rest := [.ref (ad r0), .int (iO x2)]) X hW hl (C5_of l N x3 x1 μ) gX5_allOf_X5_of rfl (by decide +kernel) rfl (by decide) rfl (Nat.le_of_ble_eq_true rfl) dX5_allOf_15 (fun H locs hW => ?_)
      obtain ⟨g2, h⟩ := z_guard h
      refine z_iald (pc := 18) X.1 hW hk_r0.1 ⟨g2.1, (z_al52 hk_r0 g2.2)⟩ dX5_allOf_18 ?_
      refine z_iadd (pc := 19) X.1 dX5_allOf_19 ?_
      obtain ⟨w3, ew3, h⟩ := z_bnd h
      refine z_istore_n (pc := 20) (i := 2) X.1 [(2, .int (iO w3)), (0, .ref (ad r0)), (1, .int (iO x1)), (3, .int (iO x3))] hl ew3 rfl (by decide) rfl dX5_allOf_20 (fun ls hl => ?_)
      refine z_iinc (pc := 21) (i := 3) X.1 [(3, .int (iO (x3 + 1))), (2, .int (iO w3)), (0, .ref (ad r0)), (1, .int (iO x1))] hl 3 rfl rfl (by decide) rfl dX5_allOf_21 (fun ls hl => ?_)
      refine z_goto (pc := 24) (tgt := 4) X.1 dX5_allOf_24 (by decide) ?_
      exact ih r0 x1 w3 (x3 + 1) hk_r0 μ em h _ _ ls hW (lv_sub hl [2, 3, 1, 0] rfl)
end
theorem C5_allOf (l : Launch) {D : va_G} {cy : ClassId × ClassId} {ad : Nat → Nat} (N : Nat) (a0 : Nat) (a1 : Int) (h_a0 : kd a0 = 2 ∧ al a0 = 52) (μ0 : mm) {res : Int} (h : M5_allOf N a0 a1 μ0 = some res) : zI l yX5_allOf wsX5_allOf 1 D cy ad [.ref (ad a0), .int (iO a1)] μ0 res μ0 := by
  refine zI.of RX5 rfl (by decide) rfl (Nat.le_of_ble_eq_true rfl) ?_
  intro p e s m args below meth c A X hW ls hl
  have hl : lv_has ls 4 [(0, .ref (ad a0)), (1, .int (iO a1))] := hl
  unfold M5_allOf at h
  refine z_iconst (pc := 0) X.1 dX5_allOf_0 ?_
  refine z_istore_n (pc := 1) (i := 2) X.1 [(2, .int (iO 0)), (0, .ref (ad a0)), (1, .int (iO a1))] hl rfl rfl (by decide) rfl dX5_allOf_1 (fun ls hl => ?_)
  refine z_iconst (pc := 2) X.1 dX5_allOf_2 ?_
  refine z_istore_n (pc := 3) (i := 3) X.1 [(3, .int (iO 0)), (2, .int (iO 0)), (0, .ref (ad a0)), (1, .int (iO a1))] hl rfl rfl (by decide) rfl dX5_allOf_3 (fun ls hl => ?_)
  exact CL5_allOf_4 X N N a0 a1 0 0 h_a0 μ0 rfl h _ _ ls hW (lv_sub hl [2, 3, 1, 0] rfl)
-- X5_issuesIn
theorem C5_issuesIn (l : Launch) {D : va_G} {cy : ClassId × ClassId} {ad : Nat → Nat} (N : Nat) (a0 : Nat) (a1 : Int) (a2 : Int) (h_a0 : kd a0 = 2 ∧ al a0 = 52) (μ : mm) {res : mm} (h : M5_issuesIn N a0 a1 a2 μ = some res) : zV l yX5_issuesIn wsX5_issuesIn 1 D cy ad [.ref (ad a0), .int (iO a1), .int (iO a2)] μ res := by
  refine zV.of RX5 rfl (by decide) rfl (Nat.le_of_ble_eq_true rfl) ?_
  intro p e s m args below meth c A X hW ls hl
  have hl : lv_has ls 3 [(0, .ref (ad a0)), (1, .int (iO a1)), (2, .int (iO a2))] := hl
  unfold M5_issuesIn at h
  refine z_aload_n (pc := 0) X.1 hl 0 rfl rfl dX5_issuesIn_0 ?_
  refine z_iconst (pc := 1) X.1 dX5_issuesIn_1 ?_
  refine z_dup2 (pc := 2) X.1 dX5_issuesIn_2 rfl rfl ?_
  refine z_iald (pc := 3) X.1 hW h_a0.1 ⟨(by decide), (z_al52 h_a0 (by decide))⟩ dX5_issuesIn_3 ?_
  refine z_iload_n (pc := 4) X.1 hl 2 rfl rfl dX5_issuesIn_4 ?_
  refine z_isub (pc := 5) X.1 dX5_issuesIn_5 ?_
  obtain ⟨μ1, eμ1, h⟩ := z_bnd h
  refine z_iast (pc := 6) X.1 hW h_a0.1 ⟨(by decide), (z_al52 h_a0 (by decide))⟩ dX5_issuesIn_6 (fun H locs hW => ?_)
  replace hW : zW D cy ad A s.heap μ1 H locs := by rw [eμ1]; exact hW
  refine z_aload_n (pc := 7) X.1 hl 0 rfl rfl dX5_issuesIn_7 ?_
  refine z_iload_n (pc := 8) X.1 hl 1 rfl rfl dX5_issuesIn_8 ?_
  refine z_iconst (pc := 9) X.1 dX5_issuesIn_9 ?_
  refine z_callSI (pc := 10) (n := 2) (As := [.int (iO a1), .int (iO 2)]) (rest := [.ref (ad a0)]) X hW hl (C5_of l N a1 2 μ1) gX5_issuesIn_X5_of rfl (by decide +kernel) rfl (by decide) rfl (Nat.le_of_ble_eq_true rfl) dX5_issuesIn_10 (fun H locs hW => ?_)
  refine z_dup2 (pc := 13) X.1 dX5_issuesIn_13 rfl rfl ?_
  obtain ⟨g2, h⟩ := z_guard h
  refine z_iald (pc := 14) X.1 hW h_a0.1 ⟨g2.1, (z_al52 h_a0 g2.2)⟩ dX5_issuesIn_14 ?_
  refine z_iload_n (pc := 15) X.1 hl 2 rfl rfl dX5_issuesIn_15 ?_
  refine z_iadd (pc := 16) X.1 dX5_issuesIn_16 ?_
  obtain ⟨g3, h⟩ := z_guard h
  obtain ⟨μ4, eμ4, h⟩ := z_bnd h
  refine z_iast (pc := 17) X.1 hW h_a0.1 ⟨g3.1, (z_al52 h_a0 g3.2)⟩ dX5_issuesIn_17 (fun H locs hW => ?_)
  replace hW : zW D cy ad A s.heap μ4 H locs := by rw [eμ4]; exact hW
  exact z_vret (pc := 18) X hW (Option.some.inj h) dX5_issuesIn_18
-- X5_handsIn
theorem C5_handsIn (l : Launch) {D : va_G} {cy : ClassId × ClassId} {ad : Nat → Nat} (N : Nat) (a0 : Nat) (a1 : Int) (h_a0 : kd a0 = 2 ∧ al a0 = 52) (μ : mm) {res : mm} (h : M5_handsIn N a0 a1 μ = some res) : zV l yX5_handsIn wsX5_handsIn 2 D cy ad [.ref (ad a0), .int (iO a1)] μ res := by
  refine zV.of RX5 rfl (by decide) rfl (Nat.le_of_ble_eq_true rfl) ?_
  intro p e s m args below meth c A X hW ls hl
  have hl : lv_has ls 3 [(0, .ref (ad a0)), (1, .int (iO a1))] := hl
  unfold M5_handsIn at h
  refine z_aload_n (pc := 0) X.1 hl 0 rfl rfl dX5_handsIn_0 ?_
  refine z_iconst (pc := 1) X.1 dX5_handsIn_1 ?_
  refine z_iald (pc := 2) X.1 hW h_a0.1 ⟨(by decide), (z_al52 h_a0 (by decide))⟩ dX5_handsIn_2 ?_
  refine z_aload_n (pc := 3) X.1 hl 0 rfl rfl dX5_handsIn_3 ?_
  refine z_iload_n (pc := 4) X.1 hl 1 rfl rfl dX5_handsIn_4 ?_
  refine z_iconst (pc := 5) X.1 dX5_handsIn_5 ?_
  refine z_callSI (pc := 6) (n := 2) (As := [.int (iO a1), .int (iO 2)]) (rest := [.ref (ad a0), .int (iO (μ a0 2))]) X hW hl (C5_of l N a1 2 μ) gX5_handsIn_X5_of rfl (by decide +kernel) rfl (by decide) rfl (Nat.le_of_ble_eq_true rfl) dX5_handsIn_6 (fun H locs hW => ?_)
  obtain ⟨g1, h⟩ := z_guard h
  refine z_iald (pc := 9) X.1 hW h_a0.1 ⟨g1.1, (z_al52 h_a0 g1.2)⟩ dX5_handsIn_9 ?_
  refine z_iadd (pc := 10) X.1 dX5_handsIn_10 ?_
  obtain ⟨w2, ew2, h⟩ := z_bnd h
  refine z_istore_n (pc := 11) (i := 2) X.1 [(2, .int (iO w2)), (0, .ref (ad a0)), (1, .int (iO a1))] hl ew2 rfl (by decide) rfl dX5_handsIn_11 (fun ls hl => ?_)
  refine z_aload_n (pc := 12) X.1 hl 1 rfl rfl dX5_handsIn_12 ?_
  refine z_iload_n (pc := 13) X.1 hl 2 rfl rfl dX5_handsIn_13 ?_
  refine z_iconst (pc := 14) X.1 dX5_handsIn_14 ?_
  refine z_callSI (pc := 15) (n := 2) (As := [.int (iO a1), .int (iO 2)]) (rest := [.ref (ad a0)]) X hW hl (C5_of l N a1 2 μ) gX5_handsIn_X5_of rfl (by decide +kernel) rfl (by decide) rfl (Nat.le_of_ble_eq_true rfl) dX5_handsIn_15 (fun H locs hW => ?_)
  refine z_iconst (pc := 18) X.1 dX5_handsIn_18 ?_
  obtain ⟨g3, h⟩ := z_guard h
  obtain ⟨μ4, eμ4, h⟩ := z_bnd h
  refine z_iast (pc := 19) X.1 hW h_a0.1 ⟨g3.1, (z_al52 h_a0 g3.2)⟩ dX5_handsIn_19 (fun H locs hW => ?_)
  replace hW : zW D cy ad A s.heap μ4 H locs := by rw [eμ4]; exact hW
  refine z_aload_n (pc := 20) X.1 hl 1 rfl rfl dX5_handsIn_20 ?_
  refine z_iconst (pc := 21) X.1 dX5_handsIn_21 ?_
  refine z_sipush (pc := 22) X.1 dX5_handsIn_22 (by decide) ?_
  refine z_iload_n (pc := 25) X.1 hl 0 rfl rfl dX5_handsIn_25 ?_
  obtain ⟨q5, eq5, h⟩ := z_bind h
  refine z_callSI (pc := 26) (n := 2) (As := [.int (iO 999), .int (iO w2)]) (rest := [.int (iO 2), .ref (ad a0)]) X hW hl (C5_least l N 999 w2 μ4 eq5) gX5_handsIn_X5_least rfl (by decide +kernel) rfl (by decide) rfl (Nat.le_of_ble_eq_true rfl) dX5_handsIn_26 (fun H locs hW => ?_)
  obtain ⟨μ6, eμ6, h⟩ := z_bnd h
  refine z_iast (pc := 29) X.1 hW h_a0.1 ⟨(by decide), (z_al52 h_a0 (by decide))⟩ dX5_handsIn_29 (fun H locs hW => ?_)
  replace hW : zW D cy ad A s.heap μ6 H locs := by rw [eμ6]; exact hW
  refine z_iload_n (pc := 30) X.1 hl 0 rfl rfl dX5_handsIn_30 ?_
  refine z_sipush (pc := 31) X.1 dX5_handsIn_31 (by decide) ?_
  obtain ⟨g7, h⟩ := z_guard h
  refine z_icmp_le (pc := 34) (tgt := 46) X.1 dX5_handsIn_34 (by decide) ⟨g7, (by decide)⟩ h (fun c9 h => ?_) (fun c9 h => ?_)
  · exact z_vret (pc := 46) X hW (Option.some.inj h) dX5_handsIn_46
  · refine z_aload_n (pc := 37) X.1 hl 1 rfl rfl dX5_handsIn_37 ?_
    refine z_iload_n (pc := 38) X.1 hl 0 rfl rfl dX5_handsIn_38 ?_
    refine z_sipush (pc := 39) X.1 dX5_handsIn_39 (by decide) ?_
    refine z_isub (pc := 42) X.1 dX5_handsIn_42 ?_
    obtain ⟨q8, eq8, h⟩ := z_bind h
    refine z_callSV (pc := 43) (n := 2) (As := [.ref (ad a0), .int (iO (w2 - 999))]) (rest := []) X hW hl (C5_isGone l N a0 (w2 - 999) h_a0 μ6 eq8) gX5_handsIn_X5_isGone rfl (by decide +kernel) rfl (by decide) rfl (Nat.le_of_ble_eq_true rfl) dX5_handsIn_43 (fun H locs hW => ?_)
    exact z_vret (pc := 46) X hW (Option.some.inj h) dX5_handsIn_46
-- X5_throughBehind
theorem iX5_throughBehind_1 : ∀ w ∈ wsX50, w ∈ wsX5_throughBehind := by decide +kernel
theorem C5_throughBehind (l : Launch) {D : va_G} {cy : ClassId × ClassId} {ad : Nat → Nat} (N : Nat) (a0 : Int) (μ : mm) {res : (Int × mm)} (h : M5_throughBehind N a0 μ = some res) : zI l yX5_throughBehind wsX5_throughBehind 6 D cy ad [.ref (ad 0), .int (iO a0)] μ res.1 res.2 := by
  refine zI.of RX5 rfl (by decide) rfl (Nat.le_of_ble_eq_true rfl) ?_
  intro p e s m args below meth c A X hW ls hl
  have hl : lv_has ls 2 [(0, .ref (ad 0)), (1, .int (iO a0))] := hl
  unfold M5_throughBehind at h
  refine z_aload_n (pc := 0) X.1 hl 0 rfl rfl dX5_throughBehind_0 ?_
  refine z_get1 (pc := 1) X.1 hW rfl iX5_throughBehind_1 1 (by decide) rfl (by decide +kernel) dX5_throughBehind_1 ?_
  refine z_iload_n (pc := 4) X.1 hl 1 rfl rfl dX5_throughBehind_4 ?_
  obtain ⟨q1, eq1, h⟩ := z_bind h
  refine z_callSV (pc := 5) (n := 2) (As := [.ref (ad 2), .int (iO a0)]) (rest := []) X hW hl (C5_daysOn l N 2 a0 (by decide) μ eq1) gX5_throughBehind_X5_daysOn rfl (by decide +kernel) rfl (by decide) rfl (Nat.le_of_ble_eq_true rfl) dX5_throughBehind_5 (fun H locs hW => ?_)
  refine z_aload_n (pc := 8) X.1 hl 0 rfl rfl dX5_throughBehind_8 ?_
  refine z_get1 (pc := 9) X.1 hW rfl iX5_throughBehind_1 1 (by decide) rfl (by decide +kernel) dX5_throughBehind_9 ?_
  refine z_iconst (pc := 12) X.1 dX5_throughBehind_12 ?_
  obtain ⟨q2, eq2, h⟩ := z_bind h
  refine z_callSI (pc := 13) (n := 2) (As := [.ref (ad 2), .int (iO 4)]) (rest := []) X hW hl (C5_allOf l N 2 4 (by decide) q1 eq2) gX5_throughBehind_X5_allOf rfl (by decide +kernel) rfl (by decide) rfl (Nat.le_of_ble_eq_true rfl) dX5_throughBehind_13 (fun H locs hW => ?_)
  refine z_aload_n (pc := 16) X.1 hl 0 rfl rfl dX5_throughBehind_16 ?_
  refine z_get1 (pc := 17) X.1 hW rfl iX5_throughBehind_1 0 (by decide) rfl (by decide +kernel) dX5_throughBehind_17 ?_
  refine z_iconst (pc := 20) X.1 dX5_throughBehind_20 ?_
  obtain ⟨q3, eq3, h⟩ := z_bind h
  refine z_callSI (pc := 21) (n := 2) (As := [.ref (ad 1), .int (iO 4)]) (rest := [.int (iO q2)]) X hW hl (C5_allOf l N 1 4 (by decide) q1 eq3) gX5_throughBehind_X5_allOf rfl (by decide +kernel) rfl (by decide) rfl (Nat.le_of_ble_eq_true rfl) dX5_throughBehind_21 (fun H locs hW => ?_)
  refine z_isub (pc := 24) X.1 dX5_throughBehind_24 ?_
  exact z_iret (pc := 25) X hW (z_p1 h) (z_p2 h) dX5_throughBehind_25
